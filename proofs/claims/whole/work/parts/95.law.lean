/-! THE CLAIM OUT OF ONE WALK OF THE LAW'S BODY. Your part is whole_start (and what it stands on); all else here is the same for every law, but numbers. -/
def R_law : String := "QuandleColoringsLaw"
def lw_P (b : Addr) (xs : List Int32) (args : Array Value) (s : State) : Prop := args = #[.ref b] ∧ s.IntsAt b xs ∧ xs.length ≤ 2048 ∧ (Jvm.Cond.and given_1 narrow_1).before args s = true
def lw_Q (_ : Array Value) (s : State) (o : Outcome) (t : State) : Prop := o = .returned (some (.int 1)) ∧ Framed s o t [] 600000 7302250
def lw_Z (below : List Frame) (a : Array Value) (s : State) : State → Prop := fun t => ∃ o, t.status = .running ∧ Ended t below o ∧ lw_Q a s o t
/-- the law's own end, with 1 on the stack, nothing written that was there before, its room as the claim has it -/
theorem lw_ret {p : Program} {l : Launch} {e : Env} {s : State} {m : MethodId} {below : List Frame} {meth : Method} {c : Code} {b : Nat} (hx : p.tables.exec = Jvm.exec) (hb : c.code = code) (hr : meth.sig.returnType = ret) (hlocks : meth.locks = false) {pc : Nat} {H : Heap} {ls : Array Slot} (hdg : decode code pc = .ok (.ireturn, 1)) : W p l e room_1 s m #[Value.ref b] below meth c H [] 600000 7302250 (lw_Z below #[Value.ref b] s) (F0 m pc ls [.int 1]) := by
  intro T hT X
  obtain ⟨fs, hret, hrun, hended, hW, hframe⟩ := X.leave (v := some (.int 1)) (hlocks := hlocks) (fun h => by rw [hr] at h; cases h)
  have hmeth' : T.vm.method? m = some meth := X.method'
  refine ⟨T.setFrames fs, ?_, .returned (some (.int 1)), hrun, hended, rfl, ⟨_, rfl⟩, hW, hframe⟩
  jvm_step X.here [X.here.top, hx, hb, hdg, hmeth', hr, ret, narrow_b1]
  (try refine ⟨rfl, ?_⟩); (try refine ⟨rfl, ?_⟩)
  first | (intro acts; rw [hret _ acts rfl rfl rfl]) | rw [hret _ _ rfl rfl rfl]
  exact Steps.refl _
/-- what holds at the law's entry: the machine, the code, the tables' words (any of lw_tbl by 'hts w (by decide +kernel)'), the script of L ints xs at the cell b, what the Statement gives of the start (any of its parts by flat_of_before) -/
def lw_At (p : Program) (s : State) (m : MethodId) (meth : Method) (c : Code) (b L : Nat) (xs : Nat → Int32) : Prop :=
  p.tables.exec = Jvm.exec ∧ c.code = code ∧ meth.sig.returnType = ret ∧ c.maxLocals = 4 ∧ s.vm.findClass R_law = some m.cls ∧ (∀ w ∈ lw_tbl, w.before #[Value.ref b] s = true) ∧ va_X b L xs s s.heap ∧ b < s.heap.size ∧ meth.locks = false ∧ (Jvm.Cond.and given_1 narrow_1).before #[Value.ref b] s = true
theorem qn_gt {L j : Nat} (hL : L ≤ 2048) (hj : j ≤ 2052) (h : ¬ (nI L - 4 < nI j)) : j + 4 ≤ L := by
  rcases Nat.lt_or_ge L (j + 4) with q | q
  · refine absurd ?_ h
    rw [fa_lt]
    have h1 : (nI L - nI 4).toInt = (L : Int) - 4 := pk_sub_toInt (by omega) (by decide)
    have h2 : (nI j).toInt = (j : Int) := nI_toInt (by omega)
    have h3 : (nI L - 4).toInt = (L : Int) - 4 := h1
    rw [h3, h2]
    omega
  · exact q
theorem qn_arr {ty : FieldType} {args : Array Value} {s : State} (h : (Cond.arrayClass ty).before args s = true) : ∃ cA : ClassId, ArrOfT s cA ty ∧ s.vm.findClass ("[" ++ ty.toString) = some cA := by
  obtain ⟨cA, kA, comp, hf, hk, hkind⟩ := Cond.arrayClass_spec h
  exact ⟨cA, fun N z => ⟨(fun k h => by cases h), kA, hk, comp, hkind⟩, hf⟩
theorem qn_arrO {C : String} {args : Array Value} {s : State} (h : (Cond.arrayOver (.object C)).before args s = true) : ∃ cA : ClassId, ArrOfT s cA (.object C) ∧ va_RA s cA (.object C) := by
  obtain ⟨comp, cA, kA, hcomp, hidx, hkA, hkindA, hnameA⟩ := Cond.arrayOver_spec h
  exact ⟨cA, fun N z => ⟨(fun k h => by cases h), kA, hkA, comp, hkindA⟩, kA, comp, hkA, hkindA, hcomp, hnameA⟩
set_option maxHeartbeats 16000000 in
set_option maxRecDepth 100000 in
theorem law_loop {p : Program} {l : Launch} {e : Env} {s : State} {m : MethodId} {below : List Frame} {meth : Method} {c : Code} {G : qn_G} {b L h_st : Nat} {xs : Nat → Int32} {h_x h_x_present h_x_present_operation h_x_present_operation_products h_x_present_operation_products_cells h_x_present_operation_quotients h_x_present_operation_quotients_cells h_x_present_braid h_x_present_braid_crossings h_x_present_weights h_x_present_weights_values h_x_present_weights_values_cells h_x_history h_x_history_past h_x_tracer h_x_tracer_top h_x_tracer_colors h_x_innerGroup h_x_innerGroup_members h_x_innerGroup_isMember h_x_automorphisms h_x_automorphisms_images h_m h_m_now h_m_history h_m_over h_m_order h_m_colors h_m_row h_m_three h_m_seen h_m_group : Nat} (hL : L ≤ 2048) (hw0 : meth.sig.returnType = ret) (C0 : qn_C p m c cL_law 4 s #[.ref b] wsL_law RL meth (some .boolean)) (hE : qn_EV G s) (hX : va_X b L xs s s.heap) (hbl : b < s.heap.size) (hZ : qn_SP h_st (fun q : Nat => s.heap.size ≤ q) s s.heap) :
    ∀ (n j : Nat), j ≤ 2052 → L + 4 ≤ j + n → ∀ (f_x_present_operation_size : Int32) (f_x_present_operation_badColumn : Int32) (a_x_present_operation_products_cells : Nat → Int32) (a_x_present_operation_quotients_cells : Nat → Int32) (f_x_present_braid_strands : Int32) (f_x_present_braid_count : Int32) (a_x_present_braid_crossings : Nat → Int32) (f_x_present_weights_modulus : Int32) (a_x_present_weights_values_cells : Nat → Int32) (f_x_history_count : Int32) (pa_x_history_past : Nat → Nat → Nat) (P_x_history_past : Nat → qn_St) (f_x_tracer_total : Int32) (a_x_tracer_top : Nat → Int32) (a_x_tracer_colors : Nat → Int32) (f_x_innerGroup_count : Int32) (a_x_innerGroup_members : Nat → Int32) (a_x_innerGroup_isMember : Nat → Int32) (a_x_automorphisms_images : Nat → Int32) (f_m_edits : Int32) (f_m_total : Int32) (a_m_now : Nat → Int32) (a_m_history : Nat → Int32) (a_m_over : Nat → Int32) (a_m_order : Nat → Int32) (a_m_colors : Nat → Int32) (a_m_row : Nat → Int32) (a_m_three : Nat → Int32) (a_m_seen : Nat → Int32) (a_m_group : Nat → Int32), qn_Inv (f_x_present_operation_size, f_x_present_operation_badColumn, a_x_present_operation_products_cells, a_x_present_operation_quotients_cells, f_x_present_braid_strands, f_x_present_braid_count, a_x_present_braid_crossings, f_x_present_weights_modulus, a_x_present_weights_values_cells) f_x_history_count P_x_history_past a_m_now a_m_history f_m_edits → ∀ (H : Heap) (locs : List Loc) (ls : Array Slot), va_P G.1 vwCl (wd_LAW G h_x h_x_present h_x_present_operation h_x_present_operation_products h_x_present_operation_products_cells h_x_present_operation_quotients h_x_present_operation_quotients_cells h_x_present_braid h_x_present_braid_crossings h_x_present_weights h_x_present_weights_values h_x_present_weights_values_cells h_x_history h_x_history_past h_x_tracer h_x_tracer_top h_x_tracer_colors h_x_innerGroup h_x_innerGroup_members h_x_innerGroup_isMember h_x_automorphisms h_x_automorphisms_images h_m h_m_now h_m_history h_m_over h_m_order h_m_colors h_m_row h_m_three h_m_seen h_m_group f_x_present_operation_size f_x_present_operation_badColumn a_x_present_operation_products_cells a_x_present_operation_quotients_cells f_x_present_braid_strands f_x_present_braid_count a_x_present_braid_crossings f_x_present_weights_modulus a_x_present_weights_values_cells f_x_history_count pa_x_history_past P_x_history_past f_x_tracer_total a_x_tracer_top a_x_tracer_colors f_x_innerGroup_count a_x_innerGroup_members a_x_innerGroup_isMember a_x_automorphisms_images f_m_edits f_m_total a_m_now a_m_history a_m_over a_m_order a_m_colors a_m_row a_m_three a_m_seen a_m_group) H → va_D (fun q : Nat => s.heap.size ≤ q) (wd_LAW G h_x h_x_present h_x_present_operation h_x_present_operation_products h_x_present_operation_products_cells h_x_present_operation_quotients h_x_present_operation_quotients_cells h_x_present_braid h_x_present_braid_crossings h_x_present_weights h_x_present_weights_values h_x_present_weights_values_cells h_x_history h_x_history_past h_x_tracer h_x_tracer_top h_x_tracer_colors h_x_innerGroup h_x_innerGroup_members h_x_innerGroup_isMember h_x_automorphisms h_x_automorphisms_images h_m h_m_now h_m_history h_m_over h_m_order h_m_colors h_m_row h_m_three h_m_seen h_m_group f_x_present_operation_size f_x_present_operation_badColumn a_x_present_operation_products_cells a_x_present_operation_quotients_cells f_x_present_braid_strands f_x_present_braid_count a_x_present_braid_crossings f_x_present_weights_modulus a_x_present_weights_values_cells f_x_history_count pa_x_history_past P_x_history_past f_x_tracer_total a_x_tracer_top a_x_tracer_colors f_x_innerGroup_count a_x_innerGroup_members a_x_innerGroup_isMember a_x_automorphisms_images f_m_edits f_m_total a_m_now a_m_history a_m_over a_m_order a_m_colors a_m_row a_m_three a_m_seen a_m_group) → va_S (fun q : Nat => s.heap.size ≤ q) s.heap H locs → lv_has ls 4 [(0, .ref b), (1, .ref h_x), (2, .ref h_m), (3, .int (nI j))] → W p l e room_1 s m #[Value.ref b] below meth c H locs 87 7932 (lw_Z below #[Value.ref b] s) (F0 m 18 ls []) := by
  obtain ⟨hx, hb, hml, hown, hts, hr, hlocks⟩ := id C0
  have hA : ∀ q : Nat, s.heap.size ≤ q → (fun q : Nat => s.heap.size ≤ q) q := fun _ h => h
  have hbA : ¬ (fun q : Nat => s.heap.size ≤ q) b := Nat.not_le.mpr hbl
  intro n
  induction n with
  | zero =>
    intro j hj hn f_x_present_operation_size f_x_present_operation_badColumn a_x_present_operation_products_cells a_x_present_operation_quotients_cells f_x_present_braid_strands f_x_present_braid_count a_x_present_braid_crossings f_x_present_weights_modulus a_x_present_weights_values_cells f_x_history_count pa_x_history_past P_x_history_past f_x_tracer_total a_x_tracer_top a_x_tracer_colors f_x_innerGroup_count a_x_innerGroup_members a_x_innerGroup_isMember a_x_automorphisms_images f_m_edits f_m_total a_m_now a_m_history a_m_over a_m_order a_m_colors a_m_row a_m_three a_m_seen a_m_group hI H locs ls hP hD hS hl
    refine lv_iload_n hx hb dL_law_18 rfl (lv_at hl 3 rfl) ?_
    refine lv_aload_n hx hb dL_law_19 rfl (lv_at hl 0 rfl) ?_
    refine va_slen hx hb hX hbl hbA hS dL_law_20 ?_
    refine lv_iconst (v := 4) hx hb dL_law_21 (by decide) ?_
    refine lv_isub hx hb dL_law_22 ?_
    refine lv_icmp_gt (tgt := 814) hx hb dL_law_23 (by decide) (fun _ => ?_) (fun c9 => absurd (qn_gt hL hj c9) (by omega))
    refine lv_iconst (v := 1) hx hb dL_law_814 (by decide) ?_
    refine va_forget (fun q hq => hS.2.2 q hq) ?_
    refine W.widen (k := 600000) (n := 7302250) (Nat.le_of_ble_eq_true rfl) (Nat.le_of_ble_eq_true rfl) ?_
    exact lw_ret hx hb hw0 hlocks dL_law_815
  | succ n ih =>
    intro j hj hn f_x_present_operation_size f_x_present_operation_badColumn a_x_present_operation_products_cells a_x_present_operation_quotients_cells f_x_present_braid_strands f_x_present_braid_count a_x_present_braid_crossings f_x_present_weights_modulus a_x_present_weights_values_cells f_x_history_count pa_x_history_past P_x_history_past f_x_tracer_total a_x_tracer_top a_x_tracer_colors f_x_innerGroup_count a_x_innerGroup_members a_x_innerGroup_isMember a_x_automorphisms_images f_m_edits f_m_total a_m_now a_m_history a_m_over a_m_order a_m_colors a_m_row a_m_three a_m_seen a_m_group hI H locs ls hP hD hS hl
    refine lv_iload_n hx hb dL_law_18 rfl (lv_at hl 3 rfl) ?_
    refine lv_aload_n hx hb dL_law_19 rfl (lv_at hl 0 rfl) ?_
    refine va_slen hx hb hX hbl hbA hS dL_law_20 ?_
    refine lv_iconst (v := 4) hx hb dL_law_21 (by decide) ?_
    refine lv_isub hx hb dL_law_22 ?_
    refine lv_icmp_gt (tgt := 814) hx hb dL_law_23 (by decide) (fun _ => ?_) (fun c9 => ?_)
    · refine lv_iconst (v := 1) hx hb dL_law_814 (by decide) ?_
      refine va_forget (fun q hq => hS.2.2 q hq) ?_
      refine W.widen (k := 600000) (n := 7302250) (Nat.le_of_ble_eq_true rfl) (Nat.le_of_ble_eq_true rfl) ?_
      exact lw_ret hx hb hw0 hlocks dL_law_815
    · have hj4 : j + 4 ≤ L := qn_gt hL hj c9
      have hN : ∀ (f_x_present_operation_size : Int32) (f_x_present_operation_badColumn : Int32) (a_x_present_operation_products_cells : Nat → Int32) (a_x_present_operation_quotients_cells : Nat → Int32) (f_x_present_braid_strands : Int32) (f_x_present_braid_count : Int32) (a_x_present_braid_crossings : Nat → Int32) (f_x_present_weights_modulus : Int32) (a_x_present_weights_values_cells : Nat → Int32) (f_x_history_count : Int32) (pa_x_history_past : Nat → Nat → Nat) (P_x_history_past : Nat → qn_St) (f_x_tracer_total : Int32) (a_x_tracer_top : Nat → Int32) (a_x_tracer_colors : Nat → Int32) (f_x_innerGroup_count : Int32) (a_x_innerGroup_members : Nat → Int32) (a_x_innerGroup_isMember : Nat → Int32) (a_x_automorphisms_images : Nat → Int32) (f_m_edits : Int32) (f_m_total : Int32) (a_m_now : Nat → Int32) (a_m_history : Nat → Int32) (a_m_over : Nat → Int32) (a_m_order : Nat → Int32) (a_m_colors : Nat → Int32) (a_m_row : Nat → Int32) (a_m_three : Nat → Int32) (a_m_seen : Nat → Int32) (a_m_group : Nat → Int32), qn_Inv (f_x_present_operation_size, f_x_present_operation_badColumn, a_x_present_operation_products_cells, a_x_present_operation_quotients_cells, f_x_present_braid_strands, f_x_present_braid_count, a_x_present_braid_crossings, f_x_present_weights_modulus, a_x_present_weights_values_cells) f_x_history_count P_x_history_past a_m_now a_m_history f_m_edits → ∀ (H : Heap) (locs : List Loc) (ls : Array Slot), va_P G.1 vwCl (wd_LAW G h_x h_x_present h_x_present_operation h_x_present_operation_products h_x_present_operation_products_cells h_x_present_operation_quotients h_x_present_operation_quotients_cells h_x_present_braid h_x_present_braid_crossings h_x_present_weights h_x_present_weights_values h_x_present_weights_values_cells h_x_history h_x_history_past h_x_tracer h_x_tracer_top h_x_tracer_colors h_x_innerGroup h_x_innerGroup_members h_x_innerGroup_isMember h_x_automorphisms h_x_automorphisms_images h_m h_m_now h_m_history h_m_over h_m_order h_m_colors h_m_row h_m_three h_m_seen h_m_group f_x_present_operation_size f_x_present_operation_badColumn a_x_present_operation_products_cells a_x_present_operation_quotients_cells f_x_present_braid_strands f_x_present_braid_count a_x_present_braid_crossings f_x_present_weights_modulus a_x_present_weights_values_cells f_x_history_count pa_x_history_past P_x_history_past f_x_tracer_total a_x_tracer_top a_x_tracer_colors f_x_innerGroup_count a_x_innerGroup_members a_x_innerGroup_isMember a_x_automorphisms_images f_m_edits f_m_total a_m_now a_m_history a_m_over a_m_order a_m_colors a_m_row a_m_three a_m_seen a_m_group) H → va_D (fun q : Nat => s.heap.size ≤ q) (wd_LAW G h_x h_x_present h_x_present_operation h_x_present_operation_products h_x_present_operation_products_cells h_x_present_operation_quotients h_x_present_operation_quotients_cells h_x_present_braid h_x_present_braid_crossings h_x_present_weights h_x_present_weights_values h_x_present_weights_values_cells h_x_history h_x_history_past h_x_tracer h_x_tracer_top h_x_tracer_colors h_x_innerGroup h_x_innerGroup_members h_x_innerGroup_isMember h_x_automorphisms h_x_automorphisms_images h_m h_m_now h_m_history h_m_over h_m_order h_m_colors h_m_row h_m_three h_m_seen h_m_group f_x_present_operation_size f_x_present_operation_badColumn a_x_present_operation_products_cells a_x_present_operation_quotients_cells f_x_present_braid_strands f_x_present_braid_count a_x_present_braid_crossings f_x_present_weights_modulus a_x_present_weights_values_cells f_x_history_count pa_x_history_past P_x_history_past f_x_tracer_total a_x_tracer_top a_x_tracer_colors f_x_innerGroup_count a_x_innerGroup_members a_x_innerGroup_isMember a_x_automorphisms_images f_m_edits f_m_total a_m_now a_m_history a_m_over a_m_order a_m_colors a_m_row a_m_three a_m_seen a_m_group) → va_S (fun q : Nat => s.heap.size ≤ q) s.heap H locs → lv_has ls 4 [(0, .ref b), (1, .ref h_x), (2, .ref h_m), (3, .int (nI j))] → W p l e room_1 s m #[Value.ref b] below meth c H locs 87 7932 (lw_Z below #[Value.ref b] s) (F0 m 808 ls []) := by
        intro f_x_present_operation_size f_x_present_operation_badColumn a_x_present_operation_products_cells a_x_present_operation_quotients_cells f_x_present_braid_strands f_x_present_braid_count a_x_present_braid_crossings f_x_present_weights_modulus a_x_present_weights_values_cells f_x_history_count pa_x_history_past P_x_history_past f_x_tracer_total a_x_tracer_top a_x_tracer_colors f_x_innerGroup_count a_x_innerGroup_members a_x_innerGroup_isMember a_x_automorphisms_images f_m_edits f_m_total a_m_now a_m_history a_m_over a_m_order a_m_colors a_m_row a_m_three a_m_seen a_m_group hI H locs ls hP hD hS hl
        have e4 : nI j + 4 = nI (j + 4) := nI_add j 4
        refine lv_iinc (v := nI (j + 4)) (lv' := [(3, .int (nI (j + 4))), (0, .ref b), (1, .ref h_x), (2, .ref h_m)]) hx hb dL_law_808 hl (k := 3) rfl e4 (by decide) rfl (fun ls hl => ?_)
        refine lv_goto (tgt := 18) hx hb dL_law_811 (by decide) ?_
        exact ih (j + 4) (by omega) (by omega) f_x_present_operation_size f_x_present_operation_badColumn a_x_present_operation_products_cells a_x_present_operation_quotients_cells f_x_present_braid_strands f_x_present_braid_count a_x_present_braid_crossings f_x_present_weights_modulus a_x_present_weights_values_cells f_x_history_count pa_x_history_past P_x_history_past f_x_tracer_total a_x_tracer_top a_x_tracer_colors f_x_innerGroup_count a_x_innerGroup_members a_x_innerGroup_isMember a_x_automorphisms_images f_m_edits f_m_total a_m_now a_m_history a_m_over a_m_order a_m_colors a_m_row a_m_three a_m_seen a_m_group hI _ _ _ hP hD hS (lv_sub hl [1, 2, 3, 0] rfl)
      refine lv_aload_n hx hb dL_law_26 rfl (lv_at hl 0 rfl) ?_
      refine lv_iload_n hx hb dL_law_27 rfl (lv_at hl 3 rfl) ?_
      refine va_sld hx hb hX hbl hbA hS (pk_in j L (by omega)) dL_law_28 ?_
      refine lv_bipush (v := 31) hx hb dL_law_29 (by decide) ?_
      refine lv_iand hx hb dL_law_31 ?_
      refine lv_topi (fun z ez => ?_)
      obtain ⟨q, hq, eq⟩ := pk_andE (xs (nI j).toNatClampNeg) (m := 31) 5 (by decide)
      rw [eq] at ez
      subst ez
      rcases (show q = 0 ∨ q = 1 ∨ q = 2 ∨ q = 3 ∨ q = 4 ∨ q = 5 ∨ q = 6 ∨ q = 7 ∨ q = 8 ∨ q = 9 ∨ q = 10 ∨ q = 11 ∨ q = 12 ∨ q = 13 ∨ q = 14 ∨ q = 15 ∨ q = 16 ∨ q = 17 ∨ q = 18 ∨ q = 19 ∨ q = 20 ∨ q = 21 ∨ q = 22 ∨ q = 23 ∨ q = 24 ∨ q = 25 ∨ q = 26 ∨ q = 27 ∨ q = 28 ∨ q = 29 ∨ q = 30 ∨ q = 31 by omega) with rfl | rfl | rfl | rfl | rfl | rfl | rfl | rfl | rfl | rfl | rfl | rfl | rfl | rfl | rfl | rfl | rfl | rfl | rfl | rfl | rfl | rfl | rfl | rfl | rfl | rfl | rfl | rfl | rfl | rfl | rfl | rfl
      · refine lv_tableIn (off := 136) (tgt := 168) hx hb dL_law_32 (by decide) (by decide) (by decide) (by decide) ?_
        exact lc_0 C0 hE hA hX hbl hbA hj4 hL hI hN hP hD hS hl
      · refine lv_tableIn (off := 159) (tgt := 191) hx hb dL_law_32 (by decide) (by decide) (by decide) (by decide) ?_
        exact lc_1 C0 hE hA hX hbl hbA hj4 hL hI hN hP hD hS hl
      · refine lv_tableIn (off := 182) (tgt := 214) hx hb dL_law_32 (by decide) (by decide) (by decide) (by decide) ?_
        exact lc_2 C0 hE hA hX hbl hbA hj4 hL hI hN hP hD hS hl
      · refine lv_tableIn (off := 215) (tgt := 247) hx hb dL_law_32 (by decide) (by decide) (by decide) (by decide) ?_
        exact lc_3 C0 hE hA hX hbl hbA hZ hj4 hL hI hN hP hD hS hl
      · refine lv_tableIn (off := 228) (tgt := 260) hx hb dL_law_32 (by decide) (by decide) (by decide) (by decide) ?_
        exact lc_4 C0 hE hA hX hbl hbA hj4 hL hI hN hP hD hS hl
      · refine lv_tableIn (off := 251) (tgt := 283) hx hb dL_law_32 (by decide) (by decide) (by decide) (by decide) ?_
        exact lc_5 C0 hE hA hX hbl hbA hj4 hL hI hN hP hD hS hl
      · refine lv_tableIn (off := 264) (tgt := 296) hx hb dL_law_32 (by decide) (by decide) (by decide) (by decide) ?_
        exact lc_6 C0 hE hA hX hbl hbA hj4 hL hI hN hP hD hS hl
      · refine lv_tableIn (off := 307) (tgt := 339) hx hb dL_law_32 (by decide) (by decide) (by decide) (by decide) ?_
        exact lc_7 C0 hE hA hX hbl hbA hj4 hL hI hN hP hD hS hl
      · refine lv_tableIn (off := 320) (tgt := 352) hx hb dL_law_32 (by decide) (by decide) (by decide) (by decide) ?_
        exact lc_8 C0 hE hA hX hbl hbA hj4 hL hI hN hP hD hS hl
      · refine lv_tableIn (off := 353) (tgt := 385) hx hb dL_law_32 (by decide) (by decide) (by decide) (by decide) ?_
        exact lc_9 C0 hE hA hX hbl hbA hj4 hL hI hN hP hD hS hl
      · refine lv_tableIn (off := 386) (tgt := 418) hx hb dL_law_32 (by decide) (by decide) (by decide) (by decide) ?_
        exact lc_10 C0 hE hA hX hbl hbA hj4 hL hI hN hP hD hS hl
      · refine lv_tableIn (off := 399) (tgt := 431) hx hb dL_law_32 (by decide) (by decide) (by decide) (by decide) ?_
        exact lc_11 C0 hE hA hX hbl hbA hj4 hL hI hN hP hD hS hl
      · refine lv_tableIn (off := 412) (tgt := 444) hx hb dL_law_32 (by decide) (by decide) (by decide) (by decide) ?_
        exact lc_12 C0 hE hA hX hbl hbA hj4 hL hI hN hP hD hS hl
      · refine lv_tableIn (off := 425) (tgt := 457) hx hb dL_law_32 (by decide) (by decide) (by decide) (by decide) ?_
        exact lc_13 C0 hE hA hX hbl hbA hj4 hL hI hN hP hD hS hl
      · refine lv_tableIn (off := 438) (tgt := 470) hx hb dL_law_32 (by decide) (by decide) (by decide) (by decide) ?_
        exact lc_14 C0 hE hA hX hbl hbA hj4 hL hI hN hP hD hS hl
      · refine lv_tableIn (off := 461) (tgt := 493) hx hb dL_law_32 (by decide) (by decide) (by decide) (by decide) ?_
        exact lc_15 C0 hE hA hX hbl hbA hj4 hL hI hN hP hD hS hl
      · refine lv_tableIn (off := 474) (tgt := 506) hx hb dL_law_32 (by decide) (by decide) (by decide) (by decide) ?_
        exact lc_16 C0 hE hA hX hbl hbA hj4 hL hI hN hP hD hS hl
      · refine lv_tableIn (off := 487) (tgt := 519) hx hb dL_law_32 (by decide) (by decide) (by decide) (by decide) ?_
        exact lc_17 C0 hE hA hX hbl hbA hj4 hL hI hN hP hD hS hl
      · refine lv_tableIn (off := 510) (tgt := 542) hx hb dL_law_32 (by decide) (by decide) (by decide) (by decide) ?_
        exact lc_18 C0 hE hA hX hbl hbA hj4 hL hI hN hP hD hS hl
      · refine lv_tableIn (off := 533) (tgt := 565) hx hb dL_law_32 (by decide) (by decide) (by decide) (by decide) ?_
        exact lc_19 C0 hE hA hX hbl hbA hj4 hL hI hN hP hD hS hl
      · refine lv_tableIn (off := 546) (tgt := 578) hx hb dL_law_32 (by decide) (by decide) (by decide) (by decide) ?_
        exact lc_20 C0 hE hA hX hbl hbA hj4 hL hI hN hP hD hS hl
      · refine lv_tableIn (off := 559) (tgt := 591) hx hb dL_law_32 (by decide) (by decide) (by decide) (by decide) ?_
        exact lc_21 C0 hE hA hX hbl hbA hj4 hL hI hN hP hD hS hl
      · refine lv_tableIn (off := 572) (tgt := 604) hx hb dL_law_32 (by decide) (by decide) (by decide) (by decide) ?_
        exact lc_22 C0 hE hA hX hbl hbA hj4 hL hI hN hP hD hS hl
      · refine lv_tableIn (off := 595) (tgt := 627) hx hb dL_law_32 (by decide) (by decide) (by decide) (by decide) ?_
        exact lc_23 C0 hE hA hX hbl hbA hj4 hL hI hN hP hD hS hl
      · refine lv_tableIn (off := 618) (tgt := 650) hx hb dL_law_32 (by decide) (by decide) (by decide) (by decide) ?_
        exact lc_24 C0 hE hA hX hbl hbA hj4 hL hI hN hP hD hS hl
      · refine lv_tableIn (off := 661) (tgt := 693) hx hb dL_law_32 (by decide) (by decide) (by decide) (by decide) ?_
        exact lc_25 C0 hE hA hX hbl hbA hj4 hL hI hN hP hD hS hl
      · refine lv_tableIn (off := 694) (tgt := 726) hx hb dL_law_32 (by decide) (by decide) (by decide) (by decide) ?_
        exact lc_26 C0 hE hA hX hbl hbA hj4 hL hI hN hP hD hS hl
      · refine lv_tableIn (off := 727) (tgt := 759) hx hb dL_law_32 (by decide) (by decide) (by decide) (by decide) ?_
        exact lc_27 C0 hE hA hX hbl hbA hj4 hL hI hN hP hD hS hl
      · refine lv_tableIn (off := 740) (tgt := 772) hx hb dL_law_32 (by decide) (by decide) (by decide) (by decide) ?_
        exact lc_28 C0 hE hA hX hbl hbA hj4 hL hI hN hP hD hS hl
      · refine lv_tableIn (off := 763) (tgt := 795) hx hb dL_law_32 (by decide) (by decide) (by decide) (by decide) ?_
        exact lc_29 C0 hE hA hX hbl hbA hj4 hL hI hN hP hD hS hl
      · refine lv_tableOut (tgt := 808) hx hb dL_law_32 (by decide) (by decide) ?_
        exact hN f_x_present_operation_size f_x_present_operation_badColumn a_x_present_operation_products_cells a_x_present_operation_quotients_cells f_x_present_braid_strands f_x_present_braid_count a_x_present_braid_crossings f_x_present_weights_modulus a_x_present_weights_values_cells f_x_history_count pa_x_history_past P_x_history_past f_x_tracer_total a_x_tracer_top a_x_tracer_colors f_x_innerGroup_count a_x_innerGroup_members a_x_innerGroup_isMember a_x_automorphisms_images f_m_edits f_m_total a_m_now a_m_history a_m_over a_m_order a_m_colors a_m_row a_m_three a_m_seen a_m_group hI _ _ _ hP hD hS hl
      · refine lv_tableOut (tgt := 808) hx hb dL_law_32 (by decide) (by decide) ?_
        exact hN f_x_present_operation_size f_x_present_operation_badColumn a_x_present_operation_products_cells a_x_present_operation_quotients_cells f_x_present_braid_strands f_x_present_braid_count a_x_present_braid_crossings f_x_present_weights_modulus a_x_present_weights_values_cells f_x_history_count pa_x_history_past P_x_history_past f_x_tracer_total a_x_tracer_top a_x_tracer_colors f_x_innerGroup_count a_x_innerGroup_members a_x_innerGroup_isMember a_x_automorphisms_images f_m_edits f_m_total a_m_now a_m_history a_m_over a_m_order a_m_colors a_m_row a_m_three a_m_seen a_m_group hI _ _ _ hP hD hS hl
set_option maxHeartbeats 16000000 in
set_option maxRecDepth 100000 in
/-- THE LAW, from its entry -/
theorem whole_start {p : Program} {e : Env} {s : State} {m : MethodId} {below : List Frame} {meth : Method} {c : Code} (l : Launch) (hflags : l.flags = flags0) {b L : Nat} {xs : Nat → Int32} (hL : L ≤ 2048) (C0 : lw_At p s m meth c b L xs) : W p l e room_1 s m #[Value.ref b] below meth c s.heap [] 0 0 (lw_Z below #[Value.ref b] s) (entryFrame m ([Value.ref b] : List Value).toArray 4) := by
  obtain ⟨hx, hb, hr, hml, hown, hts0, hX, hbl, hlocks, hgv⟩ := id C0
  have hA : ∀ q : Nat, s.heap.size ≤ q → (fun q : Nat => s.heap.size ≤ q) q := fun _ h => h
  have hts : ∀ w ∈ wsL_law, w.before #[Value.ref b] s = true := fun w h => hts0 w (wsL_law_in w h)
  have C1 : qn_C p m c cL_law 4 s #[.ref b] wsL_law RL meth (some .boolean) := ⟨hx, hb, hml, hown, hts, hr, hlocks⟩
  obtain ⟨c0, i0, hKn0⟩ := u_known (C := RX0) (T := TX0) (N := 1) (n := 1) hts0 inX0 (hts (.instantiable RX0 1) (by decide +kernel))
  obtain ⟨c1, i1, hKn1⟩ := u_known (C := RX1) (T := TX1) (N := 3) (n := 3) hts0 inX1 (hts (.instantiable RX1 3) (by decide +kernel))
  obtain ⟨c2, i2, hKn2⟩ := u_known (C := RX2) (T := TX2) (N := 1) (n := 1) hts0 inX2 (hts (.instantiable RX2 1) (by decide +kernel))
  obtain ⟨c3, i3, hKn3⟩ := u_known (C := RX3) (T := TX3) (N := 2) (n := 2) hts0 inX3 (hts (.instantiable RX3 2) (by decide +kernel))
  obtain ⟨c4, i4, hKn4⟩ := u_known (C := RX4) (T := TX4) (N := 3) (n := 3) hts0 inX4 (hts (.instantiable RX4 3) (by decide +kernel))
  obtain ⟨c5, i5, hKn5⟩ := u_known (C := RX5) (T := TX5) (N := 4) (n := 4) hts0 inX5 (hts (.instantiable RX5 4) (by decide +kernel))
  obtain ⟨c6, i6, hKn6⟩ := u_known (C := RX6) (T := TX6) (N := 3) (n := 3) hts0 inX6 (hts (.instantiable RX6 3) (by decide +kernel))
  obtain ⟨c7, i7, hKn7⟩ := u_known (C := RX7) (T := TX7) (N := 3) (n := 3) hts0 inX7 (hts (.instantiable RX7 3) (by decide +kernel))
  obtain ⟨c8, i8, hKn8⟩ := u_known (C := RX8) (T := TX8) (N := 2) (n := 2) hts0 inX8 (hts (.instantiable RX8 2) (by decide +kernel))
  obtain ⟨c9, i9, hKn9⟩ := u_known (C := RX9) (T := TX9) (N := 5) (n := 5) hts0 inX9 (hts (.instantiable RX9 5) (by decide +kernel))
  obtain ⟨c10, i10, hKn10⟩ := u_known (C := RX10) (T := TX10) (N := 11) (n := 11) hts0 inX10 (hts (.instantiable RX10 11) (by decide +kernel))
  obtain ⟨cI, aI, fI⟩ := qn_arr (ty := .int) (hts0 (.arrayClass .int) (by decide +kernel))
  obtain ⟨cZ, aZ, fZ⟩ := qn_arr (ty := .boolean) (hts0 (.arrayClass .boolean) (by decide +kernel))
  have hover : (Cond.arrayOver (.object "QuandleColorings$State")).before #[Value.ref b] s = true := hts0 _ (by decide +kernel)
  obtain ⟨cO, aO, fO⟩ := qn_arrO hover
  obtain ⟨dC, dI, hKc⟩ : ∃ (dC : Nat → ClassId) (dI : Nat → Nat → Nat), ∀ (k : Nat) (q : vw_C), vwCl[k]? = some q → u_Kn s q.1 q.2.1 q.2.2 (dC k) (dI k) := by
    refine ⟨fun k => if k = 0 then c0 else if k = 1 then c1 else if k = 2 then c2 else if k = 3 then c3 else if k = 4 then c4 else if k = 5 then c5 else if k = 6 then c6 else if k = 7 then c7 else if k = 8 then c8 else if k = 9 then c9 else c10, fun k => if k = 0 then i0 else if k = 1 then i1 else if k = 2 then i2 else if k = 3 then i3 else if k = 4 then i4 else if k = 5 then i5 else if k = 6 then i6 else if k = 7 then i7 else if k = 8 then i8 else if k = 9 then i9 else i10, ?_⟩
    intro k q hq
    match k, hq with
    | 0, hq => cases hq; exact hKn0
    | 1, hq => cases hq; exact hKn1
    | 2, hq => cases hq; exact hKn2
    | 3, hq => cases hq; exact hKn3
    | 4, hq => cases hq; exact hKn4
    | 5, hq => cases hq; exact hKn5
    | 6, hq => cases hq; exact hKn6
    | 7, hq => cases hq; exact hKn7
    | 8, hq => cases hq; exact hKn8
    | 9, hq => cases hq; exact hKn9
    | 10, hq => cases hq; exact hKn10
    | k + 11, hq => simp [vwCl] at hq
  have hE : qn_EV ((dC, dI), cI, cZ, cO) s := by
    refine ⟨⟨hKc, fun k q h => ?_⟩, qn_NW.of hts0, va_AO.of hover⟩
    match k, h with
    | 0, h => cases h; exact ⟨aI, fI⟩
    | 1, h => cases h; exact ⟨aZ, fZ⟩
    | 2, h => cases h; exact ⟨aO, fO⟩
    | k + 3, h => simp [qn_tys] at h
  generalize hG : (((dC, dI), cI, cZ, cO) : qn_G) = G at hE
  have hns : ∀ a : Nat, a < s.heap.size → ¬ (fun q : Nat => s.heap.size ≤ q) a := fun a h => Nat.not_le.mpr h
  have hfl := flat_of_before _ hgv
  have har : (Cond.arrayOf (.static "QuandleColorings" "PERMUTATIONS" "[I") .int).before #[Value.ref b] s = true := hfl _ (by decide +kernel)
  have hlen : (Cond.eq (.length (.static "QuandleColorings" "PERMUTATIONS" "[I")) (.int 18)).before #[Value.ref b] s = true := hfl _ (by decide +kernel)
  obtain ⟨h_st, hst, hT⟩ := va_Tof (N := 18) (f := fun j => .int (qn_perm j)) (A := (fun q : Nat => s.heap.size ≤ q)) (by decide) har (va_eqt hlen) (fun j hj => by
    match j, hj with
    | 0, _ => exact va_eqt (hfl (Cond.eq (.elem (.static "QuandleColorings" "PERMUTATIONS" "[I") (.int 0)) (.int 0)) (by decide +kernel))
    | 1, _ => exact va_eqt (hfl (Cond.eq (.elem (.static "QuandleColorings" "PERMUTATIONS" "[I") (.int 1)) (.int 1)) (by decide +kernel))
    | 2, _ => exact va_eqt (hfl (Cond.eq (.elem (.static "QuandleColorings" "PERMUTATIONS" "[I") (.int 2)) (.int 2)) (by decide +kernel))
    | 3, _ => exact va_eqt (hfl (Cond.eq (.elem (.static "QuandleColorings" "PERMUTATIONS" "[I") (.int 3)) (.int 0)) (by decide +kernel))
    | 4, _ => exact va_eqt (hfl (Cond.eq (.elem (.static "QuandleColorings" "PERMUTATIONS" "[I") (.int 4)) (.int 2)) (by decide +kernel))
    | 5, _ => exact va_eqt (hfl (Cond.eq (.elem (.static "QuandleColorings" "PERMUTATIONS" "[I") (.int 5)) (.int 1)) (by decide +kernel))
    | 6, _ => exact va_eqt (hfl (Cond.eq (.elem (.static "QuandleColorings" "PERMUTATIONS" "[I") (.int 6)) (.int 1)) (by decide +kernel))
    | 7, _ => exact va_eqt (hfl (Cond.eq (.elem (.static "QuandleColorings" "PERMUTATIONS" "[I") (.int 7)) (.int 0)) (by decide +kernel))
    | 8, _ => exact va_eqt (hfl (Cond.eq (.elem (.static "QuandleColorings" "PERMUTATIONS" "[I") (.int 8)) (.int 2)) (by decide +kernel))
    | 9, _ => exact va_eqt (hfl (Cond.eq (.elem (.static "QuandleColorings" "PERMUTATIONS" "[I") (.int 9)) (.int 1)) (by decide +kernel))
    | 10, _ => exact va_eqt (hfl (Cond.eq (.elem (.static "QuandleColorings" "PERMUTATIONS" "[I") (.int 10)) (.int 2)) (by decide +kernel))
    | 11, _ => exact va_eqt (hfl (Cond.eq (.elem (.static "QuandleColorings" "PERMUTATIONS" "[I") (.int 11)) (.int 0)) (by decide +kernel))
    | 12, _ => exact va_eqt (hfl (Cond.eq (.elem (.static "QuandleColorings" "PERMUTATIONS" "[I") (.int 12)) (.int 2)) (by decide +kernel))
    | 13, _ => exact va_eqt (hfl (Cond.eq (.elem (.static "QuandleColorings" "PERMUTATIONS" "[I") (.int 13)) (.int 0)) (by decide +kernel))
    | 14, _ => exact va_eqt (hfl (Cond.eq (.elem (.static "QuandleColorings" "PERMUTATIONS" "[I") (.int 14)) (.int 1)) (by decide +kernel))
    | 15, _ => exact va_eqt (hfl (Cond.eq (.elem (.static "QuandleColorings" "PERMUTATIONS" "[I") (.int 15)) (.int 2)) (by decide +kernel))
    | 16, _ => exact va_eqt (hfl (Cond.eq (.elem (.static "QuandleColorings" "PERMUTATIONS" "[I") (.int 16)) (.int 1)) (by decide +kernel))
    | 17, _ => exact va_eqt (hfl (Cond.eq (.elem (.static "QuandleColorings" "PERMUTATIONS" "[I") (.int 17)) (.int 0)) (by decide +kernel))
    | j + 18, hj => exact absurd hj (by omega)) hns
  have hZ : qn_SP h_st (fun q : Nat => s.heap.size ≤ q) s s.heap := ⟨va_Zof (hts0 (.laysStatic "QuandleColorings" "PERMUTATIONS" "[I") (by decide +kernel)) (hts (.initialized RX9) (by decide +kernel)) hst hns, hT⟩
  have hS : va_S (fun q : Nat => s.heap.size ≤ q) s.heap s.heap [] := va_S.rf
  have hP : va_P G.1 vwCl [] s.heap := fun k q h => by simp at h
  have hD : va_D (fun q : Nat => s.heap.size ≤ q) [] := ⟨fun i j p q h => by simp at h, fun k q h => by simp at h⟩
  have hl := lv_entry ([.ref b]) (n := 4) (Nat.le_of_ble_eq_true rfl)
  rw [lg_entry_eq]
  generalize (lg_sl ([.ref b]) ++ List.replicate (4 - (lg_sl ([.ref b])).length) Slot.unset).toArray = ls at hl ⊢
  have hl : lv_has ls 4 [(0, .ref b)] := hl
  refine va_new (ci := 9) (fs := [.null, .null, .null, .null, .null]) (C := RX9) (T := TX9) (N := 5) hx hb hts inlX9 tyX9 tyX9_ok hown (hts (.classLink RL 7 RX9) (by decide +kernel)) (hts (.instantiable RX9 5) (by decide +kernel)) (hts (.initialized RX9) (by decide +kernel)) hE.1 hP hD hS hA rfl (fun j hj => by rcases (show j = 0 ∨ j = 1 ∨ j = 2 ∨ j = 3 ∨ j = 4 by omega) with rfl | rfl | rfl | rfl | rfl <;> rfl) (Nat.le_of_ble_eq_true rfl) (Nat.le_of_ble_eq_true rfl) dL_law_0 (fun qx H hP hD hS => ?_)
  have hP : va_P G.1 vwCl [(qx, .inr (9, [.null, .null, .null, .null, .null]))] H := hP
  have hD : va_D (fun q : Nat => s.heap.size ≤ q) [(qx, .inr (9, [.null, .null, .null, .null, .null]))] := hD
  refine W.widen (k := 1) (n := 5) (Nat.le_of_ble_eq_true rfl) (Nat.le_of_ble_eq_true rfl) ?_
  refine lv_dup hx hb dL_law_3 rfl ?_
  refine qn_callT (X := []) (va_runI (As := []) (rest := [.ref qx]) ⟨hx, hb, hml, hown, hts⟩ (c_X9_init G _ qx st_initX) (cwI 0 hts ggL_law_X9_init rfl rfl rfl (hts (.initialized RX9) (by decide +kernel)) (hts (.methodLink RL 9 yX9_init) (by decide +kernel)) (hts (.instanceMethod yX9_init) (by decide +kernel)) rfl (by decide +kernel) ⟨Nat.le_of_ble_eq_true rfl, Nat.le_of_ble_eq_true rfl⟩) (qn_preT (X := []) hE hP hD) rfl rfl hl.1 rfl (lv_room (Nat.le_of_ble_eq_true rfl)) dL_law_4 ⟨Nat.le_of_ble_eq_true rfl, Nat.le_of_ble_eq_true rfl⟩) hP hD hS hA (fun bx u H locs hu hP hD hS => ?_)
  refine W.widen (k := 77) (n := 2283) (Nat.le_of_ble_eq_true rfl) (Nat.le_of_ble_eq_true rfl) ?_
  refine lv_astore_n (lv' := [(1, .ref qx), (0, .ref b)]) hx hb dL_law_7 rfl hl (by decide) rfl (fun ls hl => ?_)
  refine va_new (ci := 10) (fs := [.null, .null, .int 0, .null, .null, .null, .int 0, .null, .null, .null, .null]) (C := RX10) (T := TX10) (N := 11) hx hb hts inlX10 tyX10 tyX10_ok hown (hts (.classLink RL 10 RX10) (by decide +kernel)) (hts (.instantiable RX10 11) (by decide +kernel)) (hts (.initialized RX10) (by decide +kernel)) hE.1 hP hD hS hA rfl (fun j hj => by rcases (show j = 0 ∨ j = 1 ∨ j = 2 ∨ j = 3 ∨ j = 4 ∨ j = 5 ∨ j = 6 ∨ j = 7 ∨ j = 8 ∨ j = 9 ∨ j = 10 by omega) with rfl | rfl | rfl | rfl | rfl | rfl | rfl | rfl | rfl | rfl | rfl <;> rfl) (Nat.le_of_ble_eq_true rfl) (Nat.le_of_ble_eq_true rfl) dL_law_8 (fun qm H hP hD hS => ?_)
  have hP : va_P G.1 vwCl (wt_X9_init G qx bx u ++ [(qm, .inr (10, [.null, .null, .int 0, .null, .null, .null, .int 0, .null, .null, .null, .null]))]) H := hP
  have hD : va_D (fun q : Nat => s.heap.size ≤ q) (wt_X9_init G qx bx u ++ [(qm, .inr (10, [.null, .null, .int 0, .null, .null, .null, .int 0, .null, .null, .null, .null]))]) := hD
  refine W.widen (k := 78) (n := 2294) (Nat.le_of_ble_eq_true rfl) (Nat.le_of_ble_eq_true rfl) ?_
  refine lv_dup hx hb dL_law_11 rfl ?_
  refine qn_callT (X := wt_X9_init G qx bx u) (va_runI (As := []) (rest := [.ref qm]) ⟨hx, hb, hml, hown, hts⟩ (c_X10_init G _ qm hu) (cwI 0 hts ggL_law_X10_init rfl rfl rfl (hts (.initialized RX10) (by decide +kernel)) (hts (.methodLink RL 12 yX10_init) (by decide +kernel)) (hts (.instanceMethod yX10_init) (by decide +kernel)) rfl (by decide +kernel) ⟨Nat.le_of_ble_eq_true rfl, Nat.le_of_ble_eq_true rfl⟩) (qn_preT (X := wt_X9_init G qx bx u) hE hP hD) rfl rfl hl.1 rfl (lv_room (Nat.le_of_ble_eq_true rfl)) dL_law_12 ⟨Nat.le_of_ble_eq_true rfl, Nat.le_of_ble_eq_true rfl⟩) hP hD hS hA (fun am v H locs hI hP hD hS => ?_)
  refine W.widen (k := 87) (n := 7932) (Nat.le_of_ble_eq_true rfl) (Nat.le_of_ble_eq_true rfl) ?_
  refine lv_astore_n (lv' := [(2, .ref qm), (1, .ref qx), (0, .ref b)]) hx hb dL_law_15 rfl hl (by decide) rfl (fun ls hl => ?_)
  refine lv_iconst (v := 0) hx hb dL_law_16 (by decide) ?_
  refine lv_istore_n (lv' := [(3, .int (nI 0)), (2, .ref qm), (1, .ref qx), (0, .ref b)]) hx hb dL_law_17 rfl hl (by decide) rfl (fun ls hl => ?_)
  exact law_loop (h_x := qx) (h_x_present := (bx.1 1)) (h_x_present_operation := (bx.1 2)) (h_x_present_operation_products := (bx.1 3)) (h_x_present_operation_products_cells := (bx.1 4)) (h_x_present_operation_quotients := (bx.1 5)) (h_x_present_operation_quotients_cells := (bx.1 6)) (h_x_present_braid := (bx.1 7)) (h_x_present_braid_crossings := (bx.1 8)) (h_x_present_weights := (bx.1 9)) (h_x_present_weights_values := (bx.1 10)) (h_x_present_weights_values_cells := (bx.1 11)) (h_x_history := (bx.1 12)) (h_x_history_past := (bx.1 13)) (h_x_tracer := (bx.1 14)) (h_x_tracer_top := (bx.1 15)) (h_x_tracer_colors := (bx.1 16)) (h_x_innerGroup := (bx.1 17)) (h_x_innerGroup_members := (bx.1 18)) (h_x_innerGroup_isMember := (bx.1 19)) (h_x_automorphisms := (bx.1 20)) (h_x_automorphisms_images := (bx.1 21)) (h_m := qm) (h_m_now := (am 1)) (h_m_history := (am 2)) (h_m_over := (am 3)) (h_m_order := (am 4)) (h_m_colors := (am 5)) (h_m_row := (am 6)) (h_m_three := (am 7)) (h_m_seen := (am 8)) (h_m_group := (am 9)) hL hr C1 hE hX hbl hZ (L + 4) 0 (by omega) (by omega) u.1 u.2.1 u.2.2.1 u.2.2.2.1 u.2.2.2.2.1 u.2.2.2.2.2.1 u.2.2.2.2.2.2.1 u.2.2.2.2.2.2.2.1 u.2.2.2.2.2.2.2.2 0 bx.2 (fun _ => qn_S0) 0 (fun _ => 0) (fun _ => 0) 0 (fun _ => 0) (fun _ => 0) (fun _ => 0) 0 0 v (fun _ => 0) (fun _ => 0) (fun _ => 0) (fun _ => 0) (fun _ => 0) (fun _ => 0) (fun _ => 0) (fun _ => 0) hI _ _ _ hP hD hS (lv_sub hl [3, 2, 1, 0] rfl)
