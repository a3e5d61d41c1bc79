/-! THE CLAIM OUT OF ONE WALK OF THE LAW'S BODY. Your part is whole_start (and what it stands on); all else here is the same for every law, but numbers. -/
def R_law : String := "CarriedSetsLaw"
def lw_P (b : Addr) (xs : List Int32) (args : Array Value) (s : State) : Prop := args = #[.ref b] ∧ s.IntsAt b xs ∧ xs.length ≤ 1536 ∧ (Jvm.Cond.and given_1 narrow_1).before args s = true
def lw_Q (_ : Array Value) (s : State) (o : Outcome) (t : State) : Prop := o = .returned (some (.int 1)) ∧ Framed s o t [] 600000 7302250
def lw_Z (below : List Frame) (a : Array Value) (s : State) : State → Prop := fun t => ∃ o, t.status = .running ∧ Ended t below o ∧ lw_Q a s o t
/-- the law's own end, with 1 on the stack, nothing written that was there before, its room as the claim has it -/
theorem lw_ret {p : Program} {l : Launch} {e : Env} {s : State} {m : MethodId} {below : List Frame} {meth : Method} {c : Code} {b : Nat} (hx : p.tables.exec = Jvm.exec) (hb : c.code = code) (hr : meth.sig.returnType = ret) (hlocks : meth.locks = false) {pc : Nat} {H : Heap} {ls : Array Slot} (hdg : decode code pc = .ok (.ireturn, 1)) : W p l e room_1 s m #[Value.ref b] below meth c H [] 600000 7302250 (lw_Z below #[Value.ref b] s) (F0 m pc ls [.int 1]) := by
  intro T hT X
  obtain ⟨fs, hret, hrun, hended, hW, hframe⟩ := X.leave (v := some (.int 1)) (hlocks := hlocks) (fun h => by rw [hr] at h; cases h)
  have hmeth' : T.vm.method? m = some meth := X.method'
  refine ⟨T.setFrames fs, ?_, .returned (some (.int 1)), hrun, hended, rfl, ⟨_, rfl⟩, hW, hframe⟩
  jvm_step X.here [X.here.top, hx, hb, hdg, hmeth', hr, ret, narrow_b1]
  (try refine ⟨rfl, ?_⟩); (try refine ⟨rfl, ?_⟩)
  first | (intro acts; rw [hret _ acts rfl rfl rfl]) | rw [hret _ _ rfl rfl rfl]
  exact Steps.refl _
/-- what holds at the law's entry: the machine, the code, the tables' words (any of lw_tbl by 'hts w (by decide +kernel)'), the script of L ints xs at the cell b, what the Statement gives of the start (any of its parts by flat_of_before) -/
def lw_At (p : Program) (s : State) (m : MethodId) (meth : Method) (c : Code) (b L : Nat) (xs : Nat → Int32) : Prop :=
  p.tables.exec = Jvm.exec ∧ c.code = code ∧ meth.sig.returnType = ret ∧ c.maxLocals = 4 ∧ s.vm.findClass R_law = some m.cls ∧ (∀ w ∈ lw_tbl, w.before #[Value.ref b] s = true) ∧ va_X b L xs s s.heap ∧ b < s.heap.size ∧ meth.locks = false ∧ (Jvm.Cond.and given_1 narrow_1).before #[Value.ref b] s = true

def xSteps (Rel : xCT → xMT → Prop) : Prop := xS_points Rel ∧ xS_moves Rel ∧ xS_drops Rel ∧ xS_order Rel ∧ xS_of Rel ∧ xS_number Rel ∧ xS_element Rel ∧ xS_image Rel ∧ xS_least Rel ∧ xS_images Rel ∧ xS_carrier Rel ∧ xS_holds Rel ∧ xS_heads Rel ∧ xS_head Rel ∧ xS_type Rel ∧ xS_clear Rel ∧ xS_reads Rel ∧ xS_back Rel ∧ xS_told Rel ∧ xS_digest Rel
def xct0 (ra rb : Nat → Nat) (fo : Nat → Int32) : xCT := (((0 : Int32), (0 : Int32), (0 : Int32), (0 : Int32)), ((5 : Int32), (0 : Int32), (fun _ => 0)), ((0 : Int32), ra, rb, (fun _ => (5 : Int32)), (fun _ => (0 : Int32)), (fun _ => (fun _ => 0))), ((0 : Int32), (fun _ => 0)), ((0 : Int32), (-1 : Int32), (0 : Int32), (0 : Int32), (0 : Int32), (0 : Int32), (0 : Int32)), ((5 : Int32), (0 : Int32), (fun _ => 0)), ((0 : Int32), (fun _ => 0), (fun _ => 0), (fun _ => 0), (fun _ => 0), (fun _ => 0), (fun _ => 0), (0 : Int32)), ((0 : Int32), (fun _ => 0), (fun _ => 0), (fun _ => 0), (fun _ => 0), fo, (0 : Int32)))
def xmt0 : xMT := ((upd (fun _ => 0) 0 (5 : Int32)), (fun _ => 0), (fun _ => 0), (0 : Int32), (fun _ => 0), (fun _ => 0), (0 : Int32), (0 : Int32), (fun _ => 0), (fun _ => 0), (fun _ => 0), (fun _ => 0), (fun _ => 0), (fun _ => 0), (fun _ => 0), (0 : Int32), (0 : Int32), (fun _ => 0), (fun _ => 0), (fun _ => 0), (fun _ => 0), (0 : Int32), (0 : Int32), (0 : Int32), (0 : Int32), (0 : Int32), (fun _ => 0), (fun _ => 0), (0 : Int64))
set_option maxHeartbeats 4000000 in
set_option maxRecDepth 100000 in
theorem law_loop {p : Program} {l : Launch} {e : Env} {s : State} {m : MethodId} {below : List Frame} {meth : Method} {c : Code} {dC : Nat → ClassId} {dI : Nat → Nat → Nat} {cI cZ cB cO : ClassId} {b L : Nat} {xs : Nat → Int32} (hL : L ≤ 1536) (C : xCtx (dC, dI) (xT cI cZ cB cO) p s m #[Value.ref b] meth c cL_law 4 RL ret) (hX : va_X b L xs s s.heap) (hbl : b < s.heap.size) (c_ad : Nat) (c_p n_p z_p t_p r_p rt_p e_p k_p : Nat → Nat) (m_ad : Nat) (m_p : Nat → Nat) {Rel : xCT → xMT → Prop} (hst : xSteps Rel) :
    ∀ (n j : Nat) (ct : xCT) (mt : xMT), j ≤ L → L + 1 ≤ j + n → Rel ct mt → ∀ (H : Heap) (locs : List Loc), xWd (dC, dI) (fun q : Nat => s.heap.size ≤ q) s.heap H locs (lwW cI cZ cB cO c_ad c_p n_p z_p t_p r_p rt_p e_p k_p m_ad m_p ct mt) → ∀ (ls : Array Slot), lv_has ls 4 [(0, .ref b), (1, .ref c_ad), (2, .ref m_ad), (3, .int (nI j))] → W p l e room_1 s m #[Value.ref b] below meth c H locs 600000 7302250 (lw_Z below #[Value.ref b] s) (F0 m 18 ls []) := by
  intro n
  induction n with
  | zero => intro j ct mt hj hn; exact absurd hn (by omega)
  | succ n ih =>
    intro j ct mt hj hn hrel H locs hw ls hl
    have hx := C.1
    have hb := C.2.1
    refine lv_iload_n hx hb dL_law_18 rfl (lv_at hl 3 rfl) ?_
    refine lv_aload_n hx hb dL_law_19 rfl (lv_at hl 0 rfl) ?_
    refine va_slen hx hb hX hbl (Nat.not_le.mpr hbl) hw.2.2.1 dL_law_20 ?_
    refine lv_iconst (v := (3 : Int32)) hx hb dL_law_21 (by decide) ?_
    refine lv_isub hx hb dL_law_22 ?_
    have hsub : (nI L - (3 : Int32)).toInt = (L : Int) - 3 := pk_sub_toInt (a := L) (b := 3) (by omega) (by omega)
    refine lv_icmp_gt (tgt := 595) hx hb dL_law_23 (by decide) (fun c1 => ?_) (fun c1 => ?_)
    · refine lv_iconst (v := 1) hx hb dL_law_595 (by decide) ?_
      refine va_forget (fun q hq => hw.2.2.1.2.2 q hq) ?_
      exact lw_ret hx hb C.2.2.2.2.2.1 C.2.2.2.2.2.2.1 dL_law_596
    · have hlt : j + 3 ≤ L := by
        have h1 : ¬ (nI L - (3 : Int32)) < nI j := c1
        rw [Int32.lt_iff_toInt_lt, hsub, nI_toInt (by omega)] at h1
        omega
      have hi0 : vp_in (nI j) L := vp_in_nI (by omega) (by omega)
      have hi1 : vp_in (nI j + (1 : Int32)) L := by rw [show nI j + (1 : Int32) = nI (j + 1) from nI_add j 1]; exact vp_in_nI (by omega) (by omega)
      have hi2 : vp_in (nI j + (2 : Int32)) L := by rw [show nI j + (2 : Int32) = nI (j + 2) from nI_add j 2]; exact vp_in_nI (by omega) (by omega)
      have K : ∀ (ct : xCT) (mt : xMT), Rel ct mt → ∀ (H : Heap) (locs : List Loc), xWd (dC, dI) (fun q : Nat => s.heap.size ≤ q) s.heap H locs (lwW cI cZ cB cO c_ad c_p n_p z_p t_p r_p rt_p e_p k_p m_ad m_p ct mt) → W p l e room_1 s m #[Value.ref b] below meth c H locs 600000 7302250 (lw_Z below #[Value.ref b] s) (F0 m 589 ls []) := by
        intro ct mt hrel H locs hw
        refine lv_iinc (v := nI (j + 3)) (lv' := [(3, .int (nI (j + 3))), (0, .ref b), (1, .ref c_ad), (2, .ref m_ad)]) hx hb dL_law_589 hl (k := 3) rfl (nI_add j 3) (by decide) rfl (fun ls hl => ?_)
        refine lv_goto (tgt := 18) hx hb dL_law_592 (by decide) ?_
        exact ih (j + 3) ct mt (by omega) (by omega) hrel H locs hw ls (lv_sub hl [1, 2, 3, 0] rfl)
      refine lv_aload_n hx hb dL_law_26 rfl (lv_at hl 0 rfl) ?_
      refine lv_iload_n hx hb dL_law_27 rfl (lv_at hl 3 rfl) ?_
      refine va_sld hx hb hX hbl (Nat.not_le.mpr hbl) hw.2.2.1 hi0 dL_law_28 ?_
      refine lv_bipush (v := (31 : Int32)) hx hb dL_law_29 (by decide) ?_
      refine lv_iand hx hb dL_law_31 ?_
      refine lv_topi (fun x ex => ?_)
      obtain ⟨t0, t1, t2, t3, t4, t5, t6, t7, t8, t9, t10, t11, t12, t13, t14, t15, t16, t17, t18, t19⟩ := hst
      rcases Classical.em (x = (0 : Int32)) with h0 | h0
      · refine lv_tableIn (off := 96) (tgt := 128) hx hb dL_law_32 (by rw [h0]; decide) (by rw [h0]; decide) (by rw [h0]; rfl) (by decide) ?_
        exact law_points C hX hbl c_ad c_p n_p z_p t_p r_p rt_p e_p k_p m_ad m_p t0 ct mt hrel (nI j) hi1 hi2 H locs hw ls hl K
      rcases Classical.em (x = (1 : Int32)) with h1 | h1
      · refine lv_tableIn (off := 119) (tgt := 151) hx hb dL_law_32 (by rw [h1]; decide) (by rw [h1]; decide) (by rw [h1]; rfl) (by decide) ?_
        exact law_moves C hX hbl c_ad c_p n_p z_p t_p r_p rt_p e_p k_p m_ad m_p t1 ct mt hrel (nI j) hi1 hi2 H locs hw ls hl K
      rcases Classical.em (x = (2 : Int32)) with h2 | h2
      · refine lv_tableIn (off := 142) (tgt := 174) hx hb dL_law_32 (by rw [h2]; decide) (by rw [h2]; decide) (by rw [h2]; rfl) (by decide) ?_
        exact law_drops C hX hbl c_ad c_p n_p z_p t_p r_p rt_p e_p k_p m_ad m_p t2 ct mt hrel (nI j) hi1 hi2 H locs hw ls hl K
      rcases Classical.em (x = (3 : Int32)) with h3 | h3
      · refine lv_tableIn (off := 165) (tgt := 197) hx hb dL_law_32 (by rw [h3]; decide) (by rw [h3]; decide) (by rw [h3]; rfl) (by decide) ?_
        exact law_order C hX hbl c_ad c_p n_p z_p t_p r_p rt_p e_p k_p m_ad m_p t3 ct mt hrel (nI j) hi1 hi2 H locs hw ls hl K
      rcases Classical.em (x = (4 : Int32)) with h4 | h4
      · refine lv_tableIn (off := 178) (tgt := 210) hx hb dL_law_32 (by rw [h4]; decide) (by rw [h4]; decide) (by rw [h4]; rfl) (by decide) ?_
        exact law_of C hX hbl c_ad c_p n_p z_p t_p r_p rt_p e_p k_p m_ad m_p t4 ct mt hrel (nI j) hi1 hi2 H locs hw ls hl K
      rcases Classical.em (x = (5 : Int32)) with h5 | h5
      · refine lv_tableIn (off := 211) (tgt := 243) hx hb dL_law_32 (by rw [h5]; decide) (by rw [h5]; decide) (by rw [h5]; rfl) (by decide) ?_
        exact law_number C hX hbl c_ad c_p n_p z_p t_p r_p rt_p e_p k_p m_ad m_p t5 ct mt hrel (nI j) hi1 hi2 H locs hw ls hl K
      rcases Classical.em (x = (6 : Int32)) with h6 | h6
      · refine lv_tableIn (off := 234) (tgt := 266) hx hb dL_law_32 (by rw [h6]; decide) (by rw [h6]; decide) (by rw [h6]; rfl) (by decide) ?_
        exact law_element C hX hbl c_ad c_p n_p z_p t_p r_p rt_p e_p k_p m_ad m_p t6 ct mt hrel (nI j) hi1 hi2 H locs hw ls hl K
      rcases Classical.em (x = (7 : Int32)) with h7 | h7
      · refine lv_tableIn (off := 257) (tgt := 289) hx hb dL_law_32 (by rw [h7]; decide) (by rw [h7]; decide) (by rw [h7]; rfl) (by decide) ?_
        exact law_image C hX hbl c_ad c_p n_p z_p t_p r_p rt_p e_p k_p m_ad m_p t7 ct mt hrel (nI j) hi1 hi2 H locs hw ls hl K
      rcases Classical.em (x = (8 : Int32)) with h8 | h8
      · refine lv_tableIn (off := 290) (tgt := 322) hx hb dL_law_32 (by rw [h8]; decide) (by rw [h8]; decide) (by rw [h8]; rfl) (by decide) ?_
        exact law_least C hX hbl c_ad c_p n_p z_p t_p r_p rt_p e_p k_p m_ad m_p t8 ct mt hrel (nI j) hi1 hi2 H locs hw ls hl K
      rcases Classical.em (x = (9 : Int32)) with h9 | h9
      · refine lv_tableIn (off := 313) (tgt := 345) hx hb dL_law_32 (by rw [h9]; decide) (by rw [h9]; decide) (by rw [h9]; rfl) (by decide) ?_
        exact law_images C hX hbl c_ad c_p n_p z_p t_p r_p rt_p e_p k_p m_ad m_p t9 ct mt hrel (nI j) hi1 hi2 H locs hw ls hl K
      rcases Classical.em (x = (10 : Int32)) with h10 | h10
      · refine lv_tableIn (off := 346) (tgt := 378) hx hb dL_law_32 (by rw [h10]; decide) (by rw [h10]; decide) (by rw [h10]; rfl) (by decide) ?_
        exact law_carrier C hX hbl c_ad c_p n_p z_p t_p r_p rt_p e_p k_p m_ad m_p t10 ct mt hrel (nI j) hi1 hi2 H locs hw ls hl K
      rcases Classical.em (x = (11 : Int32)) with h11 | h11
      · refine lv_tableIn (off := 379) (tgt := 411) hx hb dL_law_32 (by rw [h11]; decide) (by rw [h11]; decide) (by rw [h11]; rfl) (by decide) ?_
        exact law_holds C hX hbl c_ad c_p n_p z_p t_p r_p rt_p e_p k_p m_ad m_p t11 ct mt hrel (nI j) hi1 hi2 H locs hw ls hl K
      rcases Classical.em (x = (12 : Int32)) with h12 | h12
      · refine lv_tableIn (off := 402) (tgt := 434) hx hb dL_law_32 (by rw [h12]; decide) (by rw [h12]; decide) (by rw [h12]; rfl) (by decide) ?_
        exact law_heads C hX hbl c_ad c_p n_p z_p t_p r_p rt_p e_p k_p m_ad m_p t12 ct mt hrel (nI j) hi1 hi2 H locs hw ls hl K
      rcases Classical.em (x = (13 : Int32)) with h13 | h13
      · refine lv_tableIn (off := 435) (tgt := 467) hx hb dL_law_32 (by rw [h13]; decide) (by rw [h13]; decide) (by rw [h13]; rfl) (by decide) ?_
        exact law_head C hX hbl c_ad c_p n_p z_p t_p r_p rt_p e_p k_p m_ad m_p t13 ct mt hrel (nI j) hi1 hi2 H locs hw ls hl K
      rcases Classical.em (x = (14 : Int32)) with h14 | h14
      · refine lv_tableIn (off := 458) (tgt := 490) hx hb dL_law_32 (by rw [h14]; decide) (by rw [h14]; decide) (by rw [h14]; rfl) (by decide) ?_
        exact law_type C hX hbl c_ad c_p n_p z_p t_p r_p rt_p e_p k_p m_ad m_p t14 ct mt hrel (nI j) hi1 hi2 H locs hw ls hl K
      rcases Classical.em (x = (15 : Int32)) with h15 | h15
      · refine lv_tableIn (off := 481) (tgt := 513) hx hb dL_law_32 (by rw [h15]; decide) (by rw [h15]; decide) (by rw [h15]; rfl) (by decide) ?_
        exact law_clear C hX hbl c_ad c_p n_p z_p t_p r_p rt_p e_p k_p m_ad m_p t15 ct mt hrel (nI j) hi1 hi2 H locs hw ls hl K
      rcases Classical.em (x = (16 : Int32)) with h16 | h16
      · refine lv_tableIn (off := 494) (tgt := 526) hx hb dL_law_32 (by rw [h16]; decide) (by rw [h16]; decide) (by rw [h16]; rfl) (by decide) ?_
        exact law_reads C hX hbl c_ad c_p n_p z_p t_p r_p rt_p e_p k_p m_ad m_p t16 ct mt hrel (nI j) hi1 hi2 H locs hw ls hl K
      rcases Classical.em (x = (17 : Int32)) with h17 | h17
      · refine lv_tableIn (off := 507) (tgt := 539) hx hb dL_law_32 (by rw [h17]; decide) (by rw [h17]; decide) (by rw [h17]; rfl) (by decide) ?_
        exact law_back C hX hbl c_ad c_p n_p z_p t_p r_p rt_p e_p k_p m_ad m_p t17 ct mt hrel (nI j) hi1 hi2 H locs hw ls hl K
      rcases Classical.em (x = (18 : Int32)) with h18 | h18
      · refine lv_tableIn (off := 520) (tgt := 552) hx hb dL_law_32 (by rw [h18]; decide) (by rw [h18]; decide) (by rw [h18]; rfl) (by decide) ?_
        exact law_told C hX hbl c_ad c_p n_p z_p t_p r_p rt_p e_p k_p m_ad m_p t18 ct mt hrel (nI j) hi1 hi2 H locs hw ls hl K
      rcases Classical.em (x = (19 : Int32)) with h19 | h19
      · refine lv_tableIn (off := 543) (tgt := 575) hx hb dL_law_32 (by rw [h19]; decide) (by rw [h19]; decide) (by rw [h19]; rfl) (by decide) ?_
        exact law_digest C hX hbl c_ad c_p n_p z_p t_p r_p rt_p e_p k_p m_ad m_p t19 ct mt hrel (nI j) hi1 hi2 H locs hw ls hl K
      refine lv_tableOut (tgt := 589) hx hb dL_law_32 (x_tabOut (lo := 0) (hi := 19) (by intro q hq1 hq2; have e0 := x_ne h0 (a := 0) (by decide); have e1 := x_ne h1 (a := 1) (by decide); have e2 := x_ne h2 (a := 2) (by decide); have e3 := x_ne h3 (a := 3) (by decide); have e4 := x_ne h4 (a := 4) (by decide); have e5 := x_ne h5 (a := 5) (by decide); have e6 := x_ne h6 (a := 6) (by decide); have e7 := x_ne h7 (a := 7) (by decide); have e8 := x_ne h8 (a := 8) (by decide); have e9 := x_ne h9 (a := 9) (by decide); have e10 := x_ne h10 (a := 10) (by decide); have e11 := x_ne h11 (a := 11) (by decide); have e12 := x_ne h12 (a := 12) (by decide); have e13 := x_ne h13 (a := 13) (by decide); have e14 := x_ne h14 (a := 14) (by decide); have e15 := x_ne h15 (a := 15) (by decide); have e16 := x_ne h16 (a := 16) (by decide); have e17 := x_ne h17 (a := 17) (by decide); have e18 := x_ne h18 (a := 18) (by decide); have e19 := x_ne h19 (a := 19) (by decide); omega)) (by decide) ?_
      exact K ct mt hrel H locs hw
theorem x_over {C : String} {U : State} (h : va_AO C U) : ∃ cO : ClassId, ArrOfT U cO (.object C) ∧ va_RA U cO (.object C) := by
  obtain ⟨comp, c, k, h1, h2, h3, h4, h5⟩ := Cond.arrayOver_spec h
  exact ⟨c, fun N z => ⟨(fun k h => by cases h), k, h3, comp, h4⟩, k, comp, h3, h4, h1, h5⟩
set_option maxHeartbeats 4000000 in
set_option maxRecDepth 100000 in
theorem law_start {Rel : xCT → xMT → Prop} (hst : xSteps Rel) {fo : Nat → Int32} (hfo : f_J7_fill_53178 256 (fun _ => 0) (-1 : Int32) = some fo) (hin : ∀ ra rb : Nat → Nat, Rel (xct0 ra rb fo) xmt0) {p : Program} {e : Env} {s : State} {m : MethodId} {below : List Frame} {meth : Method} {c : Code} (l : Launch) {b L : Nat} {xs : Nat → Int32} (hL : L ≤ 1536) (C0 : lw_At p s m meth c b L xs) : W p l e room_1 s m #[Value.ref b] below meth c s.heap [] 0 0 (lw_Z below #[Value.ref b] s) (entryFrame m ([Value.ref b] : List Value).toArray 4) := by
  obtain ⟨hx, hb, hr, hml, hown, hts, hX, hbl, hlocks, hgv⟩ := id C0
  have htb : ∀ w ∈ xtb, w.before #[Value.ref b] s = true := fun w h => hts w (List.mem_filter.mp h).1
  have hZ : xZ s := ⟨va_Nw.of rfl (hts _ lkN_X7_9), va_Nw.of rfl (hts _ lkN_X5_21), va_Nw.of rfl (hts _ lkN_X7_25), va_Nw.of rfl (hts _ lkN_X7_32), va_Nw.of rfl (hts _ lkN_X3_11), va_Nw.of rfl (hts _ lkN_X7_39), va_AO.of (hts _ wAO_Setup)⟩
  obtain ⟨c0, iS0, hKn0⟩ := u_known (C := RX0) (T := TX0) (N := 7) (n := 7) htb inX0 (htb _ wB_X0)
  obtain ⟨c1, iS1, hKn1⟩ := u_known (C := RX1) (T := TX1) (N := 8) (n := 8) htb inX1 (htb _ wB_X1)
  obtain ⟨c2, iS2, hKn2⟩ := u_known (C := RX3) (T := TX3) (N := 8) (n := 8) htb inX3 (htb _ wB_X3)
  obtain ⟨c3, iS3, hKn3⟩ := u_known (C := RX4) (T := TX4) (N := 3) (n := 3) htb inX4 (htb _ wB_X4)
  obtain ⟨c4, iS4, hKn4⟩ := u_known (C := RX5) (T := TX5) (N := 2) (n := 2) htb inX5 (htb _ wB_X5)
  obtain ⟨c5, iS5, hKn5⟩ := u_known (C := RX6) (T := TX6) (N := 2) (n := 2) htb inX6 (htb _ wB_X6)
  obtain ⟨c6, iS6, hKn6⟩ := u_known (C := RX7) (T := TX7) (N := 10) (n := 10) htb inX7 (htb _ wB_X7)
  obtain ⟨c7, iS7, hKn7⟩ := u_known (C := RX8) (T := TX8) (N := 29) (n := 29) htb inX8 (htb _ wB_X8)
  obtain ⟨dC, dI, hKc⟩ : ∃ (dC : Nat → ClassId) (dI : Nat → Nat → Nat), ∀ (k : Nat) (q : vw_C), vwCl[k]? = some q → u_Kn s q.1 q.2.1 q.2.2 (dC k) (dI k) := by
    refine ⟨fun k => if k = 0 then c0 else if k = 1 then c1 else if k = 2 then c2 else if k = 3 then c3 else if k = 4 then c4 else if k = 5 then c5 else if k = 6 then c6 else c7, fun k => if k = 0 then iS0 else if k = 1 then iS1 else if k = 2 then iS2 else if k = 3 then iS3 else if k = 4 then iS4 else if k = 5 then iS5 else if k = 6 then iS6 else iS7, ?_⟩
    intro k q hq
    match k, hq with
    | 0, hq => cases hq; exact hKn0
    | 1, hq => cases hq; exact hKn1
    | 2, hq => cases hq; exact hKn2
    | 3, hq => cases hq; exact hKn3
    | 4, hq => cases hq; exact hKn4
    | 5, hq => cases hq; exact hKn5
    | 6, hq => cases hq; exact hKn6
    | 7, hq => cases hq; exact hKn7
    | k + 8, hq => simp [vwCl] at hq
  obtain ⟨cI, kcI, pcI, ecI1, ecI2, ecI3⟩ := Cond.arrayClass_spec (htb _ wAC_int)
  obtain ⟨cZ, kcZ, pcZ, ecZ1, ecZ2, ecZ3⟩ := Cond.arrayClass_spec (htb _ wAC_boolean)
  obtain ⟨cB, kcB, pcB, ecB1, ecB2, ecB3⟩ := Cond.arrayClass_spec (htb _ wAC_byte)
  obtain ⟨cO, hOa, hOb⟩ := x_over hZ.2.2.2.2.2.2
  have hK : va_K (dC, dI) vwCl (xT cI cZ cB cO) s := by
    refine ⟨hKc, fun k q h => ?_⟩
    match k, h with
    | 0, h => cases h; exact ⟨fun n z => ⟨fun k h => (by cases h), kcI, ecI2, pcI, ecI3⟩, ecI1⟩
    | 1, h => cases h; exact ⟨fun n z => ⟨fun k h => (by cases h), kcZ, ecZ2, pcZ, ecZ3⟩, ecZ1⟩
    | 2, h => cases h; exact ⟨fun n z => ⟨fun k h => (by cases h), kcB, ecB2, pcB, ecB3⟩, ecB1⟩
    | 3, h => cases h; exact ⟨hOa, hOb⟩
    | k + 4, h => simp [xT] at h
  have C : xCtx (dC, dI) (xT cI cZ cB cO) p s m #[Value.ref b] meth c cL_law 4 RL ret := ⟨hx, hb, hml, hown, htb, hr, hlocks, hK⟩
  have hw : xWd (dC, dI) (fun q : Nat => s.heap.size ≤ q) s.heap s.heap [] [] := ⟨fun k q h => by simp at h, ⟨fun i j p q h => by simp at h, fun k q h => by simp at h⟩, va_S.rf, fun _ h => h⟩
  have hl := lv_entry ([.ref b]) (n := 4) (Nat.le_of_ble_eq_true rfl)
  rw [lg_entry_eq]
  generalize (lg_sl ([.ref b]) ++ List.replicate (4 - (lg_sl ([.ref b])).length) Slot.unset).toArray = ls at hl ⊢
  have hl : lv_has ls 4 [(0, .ref b)] := hl
  refine x_new (ci := 6) (fs := [.null, .null, .null, .null, .null, .null, .int 0, .int 0, .int 0, .int 0]) C hw inX7 tyX7 tyX7_ok lkC_L_7 wB_X7 wN_X7 rfl (fun j hj => by rcases (show j = 0 ∨ j = 1 ∨ j = 2 ∨ j = 3 ∨ j = 4 ∨ j = 5 ∨ j = 6 ∨ j = 7 ∨ j = 8 ∨ j = 9 by omega) with rfl | rfl | rfl | rfl | rfl | rfl | rfl | rfl | rfl | rfl <;> rfl) (Nat.le_of_ble_eq_true rfl) (Nat.le_of_ble_eq_true rfl) dL_law_0 (fun c_ad H hw => ?_)
  have hw : xWd (dC, dI) (fun q : Nat => s.heap.size ≤ q) s.heap H _ [(c_ad, .inr (6, [.null, .null, .null, .null, .null, .null, .int 0, .int 0, .int 0, .int 0]))] := hw
  refine lv_dup hx hb dL_law_3 rfl ?_
  refine x_callI (rest := [.ref c_ad]) (wc := [(c_ad, .inr (6, [.null, .null, .null, .null, .null, .null, .int 0, .int 0, .int 0, .int 0]))]) C hZ hw lkM_L_9 wI_X7_init wN_X7 wC_X7_init rfl ds_X7_init rfl rfl (Nat.le_of_ble_eq_true rfl) (Nat.le_of_ble_eq_true rfl) (Nat.le_of_ble_eq_true rfl) (Nat.le_of_ble_eq_true rfl) (c_X7_init l dC dI cI cZ cB cO c_ad fo hfo _) [0] [] (by decide) rfl rfl (by decide) (by decide) hl.1 (Nat.le_of_ble_eq_true rfl) dL_law_4 (fun u H locs hw => ?_)
  obtain ⟨c_p, n_p, z_p, ra, rb, t_p, r_p, rt_p, e_p, k_p⟩ := u
  have hw : xWd (dC, dI) (fun q : Nat => s.heap.size ≤ q) s.heap H locs ((wC cI cZ cB cO c_ad c_p (0 : Int32) (0 : Int32) (0 : Int32) (0 : Int32)) ++ ((wS cI cZ cB cO (c_p 0) n_p (5 : Int32) (0 : Int32) (fun _ => 0)) ++ ((wZ cI cZ cB cO (c_p 1) z_p (0 : Int32) ra rb (fun _ => (5 : Int32)) (fun _ => (0 : Int32)) (fun _ => (fun _ => 0))) ++ ((wT cI cZ cB cO (c_p 2) t_p (0 : Int32) (fun _ => 0)) ++ (((wR cI cZ cB cO (c_p 3) r_p (0 : Int32) (-1 : Int32) (0 : Int32) (0 : Int32) (0 : Int32) (0 : Int32) (0 : Int32)) ++ (wS cI cZ cB cO (r_p 0) rt_p (5 : Int32) (0 : Int32) (fun _ => 0))) ++ ((wE cI cZ cB cO (c_p 4) e_p (0 : Int32) (fun _ => 0) (fun _ => 0) (fun _ => 0) (fun _ => 0) (fun _ => 0) (fun _ => 0) (0 : Int32)) ++ (wK cI cZ cB cO (c_p 5) k_p (0 : Int32) (fun _ => 0) (fun _ => 0) (fun _ => 0) (fun _ => 0) fo (0 : Int32)))))))) := hw
  refine lv_astore_n (lv' := [(1, .ref c_ad), (0, .ref b)]) hx hb dL_law_7 rfl hl (by decide) rfl (fun ls hl => ?_)
  refine x_new (ci := 7) (fs := [.null, .null, .null, .int 0, .null, .null, .int 0, .int 0, .null, .null, .null, .null, .null, .null, .null, .int 0, .int 0, .null, .null, .null, .null, .int 0, .int 0, .int 0, .int 0, .int 0, .null, .null, .long 0]) C hw inX8 tyX8 tyX8_ok lkC_L_10 wB_X8 wN_X8 rfl (fun j hj => by rcases (show j = 0 ∨ j = 1 ∨ j = 2 ∨ j = 3 ∨ j = 4 ∨ j = 5 ∨ j = 6 ∨ j = 7 ∨ j = 8 ∨ j = 9 ∨ j = 10 ∨ j = 11 ∨ j = 12 ∨ j = 13 ∨ j = 14 ∨ j = 15 ∨ j = 16 ∨ j = 17 ∨ j = 18 ∨ j = 19 ∨ j = 20 ∨ j = 21 ∨ j = 22 ∨ j = 23 ∨ j = 24 ∨ j = 25 ∨ j = 26 ∨ j = 27 ∨ j = 28 by omega) with rfl | rfl | rfl | rfl | rfl | rfl | rfl | rfl | rfl | rfl | rfl | rfl | rfl | rfl | rfl | rfl | rfl | rfl | rfl | rfl | rfl | rfl | rfl | rfl | rfl | rfl | rfl | rfl | rfl <;> rfl) (Nat.le_of_ble_eq_true rfl) (Nat.le_of_ble_eq_true rfl) dL_law_8 (fun m_ad H hw => ?_)
  have hw : xWd (dC, dI) (fun q : Nat => s.heap.size ≤ q) s.heap H _ (((wC cI cZ cB cO c_ad c_p (0 : Int32) (0 : Int32) (0 : Int32) (0 : Int32)) ++ ((wS cI cZ cB cO (c_p 0) n_p (5 : Int32) (0 : Int32) (fun _ => 0)) ++ ((wZ cI cZ cB cO (c_p 1) z_p (0 : Int32) ra rb (fun _ => (5 : Int32)) (fun _ => (0 : Int32)) (fun _ => (fun _ => 0))) ++ ((wT cI cZ cB cO (c_p 2) t_p (0 : Int32) (fun _ => 0)) ++ (((wR cI cZ cB cO (c_p 3) r_p (0 : Int32) (-1 : Int32) (0 : Int32) (0 : Int32) (0 : Int32) (0 : Int32) (0 : Int32)) ++ (wS cI cZ cB cO (r_p 0) rt_p (5 : Int32) (0 : Int32) (fun _ => 0))) ++ ((wE cI cZ cB cO (c_p 4) e_p (0 : Int32) (fun _ => 0) (fun _ => 0) (fun _ => 0) (fun _ => 0) (fun _ => 0) (fun _ => 0) (0 : Int32)) ++ (wK cI cZ cB cO (c_p 5) k_p (0 : Int32) (fun _ => 0) (fun _ => 0) (fun _ => 0) (fun _ => 0) fo (0 : Int32)))))))) ++ [(m_ad, .inr (7, [.null, .null, .null, .int 0, .null, .null, .int 0, .int 0, .null, .null, .null, .null, .null, .null, .null, .int 0, .int 0, .null, .null, .null, .null, .int 0, .int 0, .int 0, .int 0, .int 0, .null, .null, .long 0]))]) := hw
  refine lv_dup hx hb dL_law_11 rfl ?_
  refine x_callI (rest := [.ref m_ad]) (wc := [(m_ad, .inr (7, [.null, .null, .null, .int 0, .null, .null, .int 0, .int 0, .null, .null, .null, .null, .null, .null, .null, .int 0, .int 0, .null, .null, .null, .null, .int 0, .int 0, .int 0, .int 0, .int 0, .null, .null, .long 0]))]) C hZ hw lkM_L_12 wI_X8_init wN_X8 wC_X8_init rfl ds_X8_init rfl rfl (Nat.le_of_ble_eq_true rfl) (Nat.le_of_ble_eq_true rfl) (Nat.le_of_ble_eq_true rfl) (Nat.le_of_ble_eq_true rfl) (c_X8_init l dC dI cI cZ cB cO m_ad _) [33] [0, 1, 2, 3, 4, 5, 6, 7, 8, 9, 10, 11, 12, 13, 14, 15, 16, 17, 18, 19, 20, 21, 22, 23, 24, 25, 26, 27, 28, 29, 30, 31, 32] (by decide) rfl rfl (by decide) (by decide) hl.1 (Nat.le_of_ble_eq_true rfl) dL_law_12 (fun m_p H locs hw => ?_)
  have hw : xWd (dC, dI) (fun q : Nat => s.heap.size ≤ q) s.heap H locs (lwW cI cZ cB cO c_ad c_p n_p z_p t_p r_p rt_p e_p k_p m_ad m_p (xct0 ra rb fo) xmt0) := hw.sub [0, 1, 2, 3, 4, 5, 6, 7, 8, 9, 10, 11, 12, 13, 14, 15, 16, 17, 18, 19, 20, 21, 22, 23, 24, 25, 26, 27, 28, 29, 30, 31, 32, 33, 34, 35, 36, 37, 38, 39, 40, 41, 42, 43, 44, 45, 46, 47, 48, 49, 50, 51] (by decide) rfl
  refine lv_astore_n (lv' := [(2, .ref m_ad), (1, .ref c_ad), (0, .ref b)]) hx hb dL_law_15 rfl hl (by decide) rfl (fun ls hl => ?_)
  refine lv_iconst (v := (0 : Int32)) hx hb dL_law_16 (by decide) ?_
  refine lv_istore_n (lv' := [(3, .int (0 : Int32)), (2, .ref m_ad), (1, .ref c_ad), (0, .ref b)]) hx hb dL_law_17 rfl hl (by decide) rfl (fun ls hl => ?_)
  refine W.widen (k := 600000) (n := 7302250) (Nat.le_of_ble_eq_true rfl) (Nat.le_of_ble_eq_true rfl) ?_
  exact law_loop hL C hX hbl c_ad c_p n_p z_p t_p r_p rt_p e_p k_p m_ad m_p hst (L + 1) 0 (xct0 ra rb fo) xmt0 (Nat.zero_le L) (by omega) (hin ra rb) H locs hw ls (lv_sub hl [3, 2, 1, 0] rfl)
