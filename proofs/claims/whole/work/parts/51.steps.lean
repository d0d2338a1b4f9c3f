theorem st_innerGroupOrder {f_x_present_operation_size : Int32} {f_x_present_operation_badColumn : Int32} {a_x_present_operation_products_cells : Nat → Int32} {a_x_present_operation_quotients_cells : Nat → Int32} {f_x_present_braid_strands : Int32} {f_x_present_braid_count : Int32} {a_x_present_braid_crossings : Nat → Int32} {f_x_present_weights_modulus : Int32} {a_x_present_weights_values_cells : Nat → Int32} {f_x_history_count : Int32} {P_x_history_past : Nat → qn_St} {f_x_innerGroup_count : Int32} {a_x_innerGroup_members : Nat → Int32} {a_x_innerGroup_isMember : Nat → Int32} {f_m_edits : Int32} {a_m_now : Nat → Int32} {a_m_history : Nat → Int32} {a_m_over : Nat → Int32} {a_m_row : Nat → Int32} {a_m_seen : Nat → Int32} {a_m_group : Nat → Int32} (h : qn_Inv (f_x_present_operation_size, f_x_present_operation_badColumn, a_x_present_operation_products_cells, a_x_present_operation_quotients_cells, f_x_present_braid_strands, f_x_present_braid_count, a_x_present_braid_crossings, f_x_present_weights_modulus, a_x_present_weights_values_cells) f_x_history_count P_x_history_past a_m_now a_m_history f_m_edits) : wp_X9_innerGroupOrder (fun (r : Int32) (f_x_innerGroup_count' : Int32) (a_x_innerGroup_members' : Nat → Int32) (a_x_innerGroup_isMember' : Nat → Int32) => wp_X10_innerGroupOrder (fun (r2 : Int32) (a_m_over' : Nat → Int32) (a_m_row' : Nat → Int32) (a_m_seen' : Nat → Int32) (a_m_group' : Nat → Int32) => r = r2 ∧ qn_Inv (f_x_present_operation_size, f_x_present_operation_badColumn, a_x_present_operation_products_cells, a_x_present_operation_quotients_cells, f_x_present_braid_strands, f_x_present_braid_count, a_x_present_braid_crossings, f_x_present_weights_modulus, a_x_present_weights_values_cells) f_x_history_count P_x_history_past a_m_now a_m_history f_m_edits) a_m_now a_m_over a_m_row a_m_seen a_m_group) f_x_present_operation_size f_x_present_operation_badColumn a_x_present_operation_products_cells f_x_innerGroup_count a_x_innerGroup_members a_x_innerGroup_isMember := by
  have h0 := h
  obtain ⟨c, hc, rfl, rfl, ⟨n, s, k, m, t, w, g, hG, hX, hM⟩, hH⟩ := h
  obtain ⟨rfl, hb, ht, hq, rfl, rfl, hg, rfl, hw⟩ := q_Xd hX
  obtain ⟨g1, g2, g3, g4, g5, g6, g7, g8, g9, g10⟩ := id hG
  obtain ⟨m1, m2, m3, m4, m5, m6, m7⟩ := id hM
  rcases q_badI g2 hb with ⟨rfl, hi⟩ | ⟨hne, hni⟩
  · exact s_invT ⟨fun _ => s_order g1 g2 g8 hi ht (fun mem' ism' => s_mOrder g1 g2 g8 hi m1 m2 (fun o' row' se' gr' => ⟨rfl, h0⟩)), fun z => absurd z (by decide)⟩
  · refine s_invF hne ⟨fun z => absurd rfl z, fun _ => s_column g2 g8 m1 m2 (fun b o hb' ho => ?_)⟩
    obtain rfl := q_bad1 g2 hb' hb
    exact ⟨fun z => absurd z hne, fun _ => ⟨rfl, h0⟩⟩

theorem st_automorphismCount {f_x_present_operation_size : Int32} {f_x_present_operation_badColumn : Int32} {a_x_present_operation_products_cells : Nat → Int32} {a_x_present_operation_quotients_cells : Nat → Int32} {f_x_present_braid_strands : Int32} {f_x_present_braid_count : Int32} {a_x_present_braid_crossings : Nat → Int32} {f_x_present_weights_modulus : Int32} {a_x_present_weights_values_cells : Nat → Int32} {f_x_history_count : Int32} {P_x_history_past : Nat → qn_St} {a_x_automorphisms_images : Nat → Int32} {f_m_edits : Int32} {a_m_now : Nat → Int32} {a_m_history : Nat → Int32} {a_m_order : Nat → Int32} (h : qn_Inv (f_x_present_operation_size, f_x_present_operation_badColumn, a_x_present_operation_products_cells, a_x_present_operation_quotients_cells, f_x_present_braid_strands, f_x_present_braid_count, a_x_present_braid_crossings, f_x_present_weights_modulus, a_x_present_weights_values_cells) f_x_history_count P_x_history_past a_m_now a_m_history f_m_edits) : wp_X9_automorphismCount (fun (r : Int32) (a_x_automorphisms_images' : Nat → Int32) => wp_X10_automorphismCount (fun (r2 : Int32) (a_m_order' : Nat → Int32) => r = r2 ∧ qn_Inv (f_x_present_operation_size, f_x_present_operation_badColumn, a_x_present_operation_products_cells, a_x_present_operation_quotients_cells, f_x_present_braid_strands, f_x_present_braid_count, a_x_present_braid_crossings, f_x_present_weights_modulus, a_x_present_weights_values_cells) f_x_history_count P_x_history_past a_m_now a_m_history f_m_edits) a_m_now a_m_order) f_x_present_operation_size f_x_present_operation_badColumn a_x_present_operation_products_cells a_x_automorphisms_images := by
  have h0 := h
  obtain ⟨c, hc, rfl, rfl, ⟨n, s, k, m, t, w, g, hG, hX, hM⟩, hH⟩ := h
  obtain ⟨rfl, hb, ht, hq, rfl, rfl, hg, rfl, hw⟩ := q_Xd hX
  obtain ⟨g1, g2, g3, g4, g5, g6, g7, g8, g9, g10⟩ := id hG
  obtain ⟨m1, m2, m3, m4, m5, m6, m7⟩ := id hM
  exact s_autos g1 g2 g8 ht (fun a' => s_mAuto g1 g2 g8 m1 m2 (fun o' => ⟨rfl, h0⟩))

theorem st_coloringCount {f_x_present_operation_size : Int32} {f_x_present_operation_badColumn : Int32} {a_x_present_operation_products_cells : Nat → Int32} {a_x_present_operation_quotients_cells : Nat → Int32} {f_x_present_braid_strands : Int32} {f_x_present_braid_count : Int32} {a_x_present_braid_crossings : Nat → Int32} {f_x_present_weights_modulus : Int32} {a_x_present_weights_values_cells : Nat → Int32} {f_x_history_count : Int32} {P_x_history_past : Nat → qn_St} {f_x_tracer_total : Int32} {a_x_tracer_top : Nat → Int32} {a_x_tracer_colors : Nat → Int32} {f_m_edits : Int32} {f_m_total : Int32} {a_m_now : Nat → Int32} {a_m_history : Nat → Int32} {a_m_over : Nat → Int32} {a_m_colors : Nat → Int32} (h : qn_Inv (f_x_present_operation_size, f_x_present_operation_badColumn, a_x_present_operation_products_cells, a_x_present_operation_quotients_cells, f_x_present_braid_strands, f_x_present_braid_count, a_x_present_braid_crossings, f_x_present_weights_modulus, a_x_present_weights_values_cells) f_x_history_count P_x_history_past a_m_now a_m_history f_m_edits) : wp_X9_coloringCount (fun (r : Int32) (f_x_tracer_total' : Int32) (a_x_tracer_top' : Nat → Int32) (a_x_tracer_colors' : Nat → Int32) => wp_X10_coloringCount (fun (r2 : Int32) (f_m_total' : Int32) (a_m_over' : Nat → Int32) (a_m_colors' : Nat → Int32) => r = r2 ∧ qn_Inv (f_x_present_operation_size, f_x_present_operation_badColumn, a_x_present_operation_products_cells, a_x_present_operation_quotients_cells, f_x_present_braid_strands, f_x_present_braid_count, a_x_present_braid_crossings, f_x_present_weights_modulus, a_x_present_weights_values_cells) f_x_history_count P_x_history_past a_m_now a_m_history f_m_edits) f_m_total a_m_now a_m_over a_m_colors) f_x_present_operation_size f_x_present_operation_badColumn a_x_present_operation_products_cells a_x_present_operation_quotients_cells f_x_present_braid_strands f_x_present_braid_count a_x_present_braid_crossings f_x_present_weights_modulus a_x_present_weights_values_cells f_x_tracer_total a_x_tracer_top a_x_tracer_colors := by
  have h0 := h
  obtain ⟨c, hc, rfl, rfl, ⟨n, s, k, m, t, w, g, hG, hX, hM⟩, hH⟩ := h
  obtain ⟨rfl, hb, ht, hq, rfl, rfl, hg, rfl, hw⟩ := q_Xd hX
  obtain ⟨g1, g2, g3, g4, g5, g6, g7, g8, g9, g10⟩ := id hG
  obtain ⟨m1, m2, m3, m4, m5, m6, m7⟩ := id hM
  rcases q_badI g2 hb with ⟨rfl, hi⟩ | ⟨hne, hni⟩
  · have hE : qn_ev n s k m t w g := ⟨hG, hi⟩
    refine s_invT ⟨fun _ => s_countAll hE ht hq hg hw (fun T a' c' => s_column g2 g8 m1 m2 (fun b o hb' ho => ?_)), fun z => absurd z (by decide)⟩
    obtain rfl := q_bad1 g2 hb' hb
    exact ⟨fun _ => s_codes g4 m1 m3 (s_mCount hE hM (ho hi) (fun T c' => ⟨rfl, h0⟩)), fun z => absurd rfl z⟩
  · refine s_invF hne ⟨fun z => absurd rfl z, fun _ => s_column g2 g8 m1 m2 (fun b o hb' ho => ?_)⟩
    obtain rfl := q_bad1 g2 hb' hb
    exact ⟨fun z => absurd z hne, fun _ => ⟨rfl, h0⟩⟩

theorem st_nextColoring {f_x_present_operation_size : Int32} {f_x_present_operation_badColumn : Int32} {a_x_present_operation_products_cells : Nat → Int32} {a_x_present_operation_quotients_cells : Nat → Int32} {f_x_present_braid_strands : Int32} {f_x_present_braid_count : Int32} {a_x_present_braid_crossings : Nat → Int32} {f_x_present_weights_modulus : Int32} {a_x_present_weights_values_cells : Nat → Int32} {f_x_history_count : Int32} {P_x_history_past : Nat → qn_St} {f_x_tracer_total : Int32} {a_x_tracer_top : Nat → Int32} {a_x_tracer_colors : Nat → Int32} {f_m_edits : Int32} {f_m_total : Int32} {a_m_now : Nat → Int32} {a_m_history : Nat → Int32} {a_m_over : Nat → Int32} {a_m_colors : Nat → Int32} (h : qn_Inv (f_x_present_operation_size, f_x_present_operation_badColumn, a_x_present_operation_products_cells, a_x_present_operation_quotients_cells, f_x_present_braid_strands, f_x_present_braid_count, a_x_present_braid_crossings, f_x_present_weights_modulus, a_x_present_weights_values_cells) f_x_history_count P_x_history_past a_m_now a_m_history f_m_edits) (x1 : Int32) : wp_X9_nextColoring (fun (r : Int32) (f_x_tracer_total' : Int32) (a_x_tracer_top' : Nat → Int32) (a_x_tracer_colors' : Nat → Int32) => wp_X10_nextColoring (fun (r2 : Int32) (f_m_total' : Int32) (a_m_over' : Nat → Int32) (a_m_colors' : Nat → Int32) => r = r2 ∧ qn_Inv (f_x_present_operation_size, f_x_present_operation_badColumn, a_x_present_operation_products_cells, a_x_present_operation_quotients_cells, f_x_present_braid_strands, f_x_present_braid_count, a_x_present_braid_crossings, f_x_present_weights_modulus, a_x_present_weights_values_cells) f_x_history_count P_x_history_past a_m_now a_m_history f_m_edits) f_m_total a_m_now a_m_over a_m_colors x1) f_x_present_operation_size f_x_present_operation_badColumn a_x_present_operation_products_cells a_x_present_operation_quotients_cells f_x_present_braid_strands f_x_present_braid_count a_x_present_braid_crossings f_x_present_weights_modulus a_x_present_weights_values_cells f_x_tracer_total a_x_tracer_top a_x_tracer_colors x1 := by
  have h0 := h
  obtain ⟨c, hc, rfl, rfl, ⟨n, s, k, m, t, w, g, hG, hX, hM⟩, hH⟩ := h
  obtain ⟨rfl, hb, ht, hq, rfl, rfl, hg, rfl, hw⟩ := q_Xd hX
  obtain ⟨g1, g2, g3, g4, g5, g6, g7, g8, g9, g10⟩ := id hG
  obtain ⟨m1, m2, m3, m4, m5, m6, m7⟩ := id hM
  by_cases hx : 0 ≤ x1
  · obtain ⟨F, hF, rfl⟩ := nI_of (x := x1) (fun z => (fa_of_lt z).2.1 hx)
    rcases q_badI g2 hb with ⟨rfl, hi⟩ | ⟨hne, hni⟩
    · have hE : qn_ev n s k m t w g := ⟨hG, hi⟩
      refine ⟨fun _ => s_invT ⟨fun _ => s_firstFrom hE ht hq hg hw hF (fun T a' c' => ⟨fun _ => s_column g2 g8 m1 m2 (fun b o hb' ho => ?_), fun z => absurd hx z⟩), fun z => absurd z (by decide)⟩, fun z => absurd hx z⟩
      obtain rfl := q_bad1 g2 hb' hb
      exact ⟨fun _ => s_codes g4 m1 m3 (s_mNext hE hM (ho hi) hF (fun T c' => ⟨rfl, h0⟩)), fun z => absurd rfl z⟩
    · refine ⟨fun _ => s_invF hne ⟨fun z => absurd rfl z, fun _ => ⟨fun _ => s_column g2 g8 m1 m2 (fun b o hb' ho => ?_), fun z => absurd hx z⟩⟩, fun z => absurd hx z⟩
      obtain rfl := q_bad1 g2 hb' hb
      exact ⟨fun z => absurd z hne, fun _ => ⟨rfl, h0⟩⟩
  · exact ⟨fun z => absurd z hx, fun _ => ⟨fun z => absurd z hx, fun _ => ⟨rfl, h0⟩⟩⟩

theorem st_stateSum {f_x_present_operation_size : Int32} {f_x_present_operation_badColumn : Int32} {a_x_present_operation_products_cells : Nat → Int32} {a_x_present_operation_quotients_cells : Nat → Int32} {f_x_present_braid_strands : Int32} {f_x_present_braid_count : Int32} {a_x_present_braid_crossings : Nat → Int32} {f_x_present_weights_modulus : Int32} {a_x_present_weights_values_cells : Nat → Int32} {f_x_history_count : Int32} {P_x_history_past : Nat → qn_St} {f_x_tracer_total : Int32} {a_x_tracer_top : Nat → Int32} {a_x_tracer_colors : Nat → Int32} {f_m_edits : Int32} {f_m_total : Int32} {a_m_now : Nat → Int32} {a_m_history : Nat → Int32} {a_m_over : Nat → Int32} {a_m_colors : Nat → Int32} (h : qn_Inv (f_x_present_operation_size, f_x_present_operation_badColumn, a_x_present_operation_products_cells, a_x_present_operation_quotients_cells, f_x_present_braid_strands, f_x_present_braid_count, a_x_present_braid_crossings, f_x_present_weights_modulus, a_x_present_weights_values_cells) f_x_history_count P_x_history_past a_m_now a_m_history f_m_edits) (x1 : Int32) : wp_X9_stateSum (fun (r : Int32) (f_x_tracer_total' : Int32) (a_x_tracer_top' : Nat → Int32) (a_x_tracer_colors' : Nat → Int32) => wp_X10_stateSum (fun (r2 : Int32) (f_m_total' : Int32) (a_m_over' : Nat → Int32) (a_m_colors' : Nat → Int32) => r = r2 ∧ qn_Inv (f_x_present_operation_size, f_x_present_operation_badColumn, a_x_present_operation_products_cells, a_x_present_operation_quotients_cells, f_x_present_braid_strands, f_x_present_braid_count, a_x_present_braid_crossings, f_x_present_weights_modulus, a_x_present_weights_values_cells) f_x_history_count P_x_history_past a_m_now a_m_history f_m_edits) f_m_total a_m_now a_m_over a_m_colors x1) f_x_present_operation_size f_x_present_operation_badColumn a_x_present_operation_products_cells a_x_present_operation_quotients_cells f_x_present_braid_strands f_x_present_braid_count a_x_present_braid_crossings f_x_present_weights_modulus a_x_present_weights_values_cells f_x_tracer_total a_x_tracer_top a_x_tracer_colors x1 := by
  have h0 := h
  obtain ⟨c, hc, rfl, rfl, ⟨n, s, k, m, t, w, g, hG, hX, hM⟩, hH⟩ := h
  obtain ⟨rfl, hb, ht, hq, rfl, rfl, hg, rfl, hw⟩ := q_Xd hX
  obtain ⟨g1, g2, g3, g4, g5, g6, g7, g8, g9, g10⟩ := id hG
  obtain ⟨m1, m2, m3, m4, m5, m6, m7⟩ := id hM
  rcases q_el x1 (n := m) (by omega) with hx | ⟨x, hx, rfl⟩
  · refine s_wallF hx ⟨fun z => absurd rfl z, fun _ => ⟨pk_in 87 88 (by omega), ?_⟩⟩
    rw [q87, m6]
    exact q_inw g6 g7 hx ⟨fun z => absurd rfl z, fun _ => ⟨rfl, h0⟩⟩
  · rcases q_badI g2 hb with ⟨rfl, hi⟩ | ⟨hne, hni⟩
    · have hE : qn_ev n s k m t w g := ⟨hG, hi⟩
      refine s_wallT g7 hx ⟨fun _ => s_invT ⟨fun _ => s_countTot hE ht hq hg hw hx (fun T a' c' => ⟨pk_in 87 88 (by omega), ?_⟩), fun z => absurd z (by decide)⟩, fun z => absurd z (by decide)⟩
      rw [q87, m6]
      refine q_inwT g7 hx ⟨fun _ => s_column g2 g8 m1 m2 (fun b o hb' ho => ?_), fun z => absurd z (by decide)⟩
      obtain rfl := q_bad1 g2 hb' hb
      exact ⟨fun _ => s_codes g4 m1 m3 (s_mSum hE hM (ho hi) hx (fun T c' => ⟨rfl, h0⟩)), fun z => absurd rfl z⟩
    · refine s_wallT g7 hx ⟨fun _ => s_invF hne ⟨fun z => absurd rfl z, fun _ => ⟨pk_in 87 88 (by omega), ?_⟩⟩, fun z => absurd z (by decide)⟩
      rw [q87, m6]
      refine q_inwT g7 hx ⟨fun _ => s_column g2 g8 m1 m2 (fun b o hb' ho => ?_), fun z => absurd z (by decide)⟩
      obtain rfl := q_bad1 g2 hb' hb
      exact ⟨fun z => absurd z hne, fun _ => ⟨rfl, h0⟩⟩
