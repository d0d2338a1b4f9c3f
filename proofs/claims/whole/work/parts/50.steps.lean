theorem st_size {f_x_present_operation_size : Int32} {f_x_present_operation_badColumn : Int32} {a_x_present_operation_products_cells : Nat → Int32} {a_x_present_operation_quotients_cells : Nat → Int32} {f_x_present_braid_strands : Int32} {f_x_present_braid_count : Int32} {a_x_present_braid_crossings : Nat → Int32} {f_x_present_weights_modulus : Int32} {a_x_present_weights_values_cells : Nat → Int32} {f_x_history_count : Int32} {P_x_history_past : Nat → qn_St} {f_m_edits : Int32} {a_m_now : Nat → Int32} {a_m_history : Nat → Int32} (h : qn_Inv (f_x_present_operation_size, f_x_present_operation_badColumn, a_x_present_operation_products_cells, a_x_present_operation_quotients_cells, f_x_present_braid_strands, f_x_present_braid_count, a_x_present_braid_crossings, f_x_present_weights_modulus, a_x_present_weights_values_cells) f_x_history_count P_x_history_past a_m_now a_m_history f_m_edits) : wp_X9_size (fun (r : Int32) => wp_X10_size (fun (r2 : Int32) => r = r2 ∧ qn_Inv (f_x_present_operation_size, f_x_present_operation_badColumn, a_x_present_operation_products_cells, a_x_present_operation_quotients_cells, f_x_present_braid_strands, f_x_present_braid_count, a_x_present_braid_crossings, f_x_present_weights_modulus, a_x_present_weights_values_cells) f_x_history_count P_x_history_past a_m_now a_m_history f_m_edits) a_m_now) f_x_present_operation_size := by
  have h0 := h
  obtain ⟨c, hc, rfl, rfl, ⟨n, s, k, m, t, w, g, hG, hX, hM⟩, hH⟩ := h
  obtain ⟨rfl, hb, ht, hq, rfl, rfl, hg, rfl, hw⟩ := q_Xd hX
  obtain ⟨g1, g2, g3, g4, g5, g6, g7, g8, g9, g10⟩ := id hG
  obtain ⟨m1, m2, m3, m4, m5, m6, m7⟩ := id hM
  exact ⟨pk_in 84 88 (by omega), by rw [q84, m1]; exact ⟨rfl, h0⟩⟩

theorem st_crossingCount {f_x_present_operation_size : Int32} {f_x_present_operation_badColumn : Int32} {a_x_present_operation_products_cells : Nat → Int32} {a_x_present_operation_quotients_cells : Nat → Int32} {f_x_present_braid_strands : Int32} {f_x_present_braid_count : Int32} {a_x_present_braid_crossings : Nat → Int32} {f_x_present_weights_modulus : Int32} {a_x_present_weights_values_cells : Nat → Int32} {f_x_history_count : Int32} {P_x_history_past : Nat → qn_St} {f_m_edits : Int32} {a_m_now : Nat → Int32} {a_m_history : Nat → Int32} (h : qn_Inv (f_x_present_operation_size, f_x_present_operation_badColumn, a_x_present_operation_products_cells, a_x_present_operation_quotients_cells, f_x_present_braid_strands, f_x_present_braid_count, a_x_present_braid_crossings, f_x_present_weights_modulus, a_x_present_weights_values_cells) f_x_history_count P_x_history_past a_m_now a_m_history f_m_edits) : wp_X9_crossingCount (fun (r : Int32) => wp_X10_crossingCount (fun (r2 : Int32) => r = r2 ∧ qn_Inv (f_x_present_operation_size, f_x_present_operation_badColumn, a_x_present_operation_products_cells, a_x_present_operation_quotients_cells, f_x_present_braid_strands, f_x_present_braid_count, a_x_present_braid_crossings, f_x_present_weights_modulus, a_x_present_weights_values_cells) f_x_history_count P_x_history_past a_m_now a_m_history f_m_edits) a_m_now) f_x_present_braid_count := by
  have h0 := h
  obtain ⟨c, hc, rfl, rfl, ⟨n, s, k, m, t, w, g, hG, hX, hM⟩, hH⟩ := h
  obtain ⟨rfl, hb, ht, hq, rfl, rfl, hg, rfl, hw⟩ := q_Xd hX
  obtain ⟨g1, g2, g3, g4, g5, g6, g7, g8, g9, g10⟩ := id hG
  obtain ⟨m1, m2, m3, m4, m5, m6, m7⟩ := id hM
  exact ⟨pk_in 86 88 (by omega), by rw [q86, m4]; exact ⟨rfl, h0⟩⟩

theorem st_entry {f_x_present_operation_size : Int32} {f_x_present_operation_badColumn : Int32} {a_x_present_operation_products_cells : Nat → Int32} {a_x_present_operation_quotients_cells : Nat → Int32} {f_x_present_braid_strands : Int32} {f_x_present_braid_count : Int32} {a_x_present_braid_crossings : Nat → Int32} {f_x_present_weights_modulus : Int32} {a_x_present_weights_values_cells : Nat → Int32} {f_x_history_count : Int32} {P_x_history_past : Nat → qn_St} {f_m_edits : Int32} {a_m_now : Nat → Int32} {a_m_history : Nat → Int32} (h : qn_Inv (f_x_present_operation_size, f_x_present_operation_badColumn, a_x_present_operation_products_cells, a_x_present_operation_quotients_cells, f_x_present_braid_strands, f_x_present_braid_count, a_x_present_braid_crossings, f_x_present_weights_modulus, a_x_present_weights_values_cells) f_x_history_count P_x_history_past a_m_now a_m_history f_m_edits) (x1 x2 : Int32) : wp_X9_entry (fun (r : Int32) => wp_X10_entry (fun (r2 : Int32) => r = r2 ∧ qn_Inv (f_x_present_operation_size, f_x_present_operation_badColumn, a_x_present_operation_products_cells, a_x_present_operation_quotients_cells, f_x_present_braid_strands, f_x_present_braid_count, a_x_present_braid_crossings, f_x_present_weights_modulus, a_x_present_weights_values_cells) f_x_history_count P_x_history_past a_m_now a_m_history f_m_edits) a_m_now x1 x2) f_x_present_operation_size a_x_present_operation_products_cells x1 x2 := by
  have h0 := h
  obtain ⟨c, hc, rfl, rfl, ⟨n, s, k, m, t, w, g, hG, hX, hM⟩, hH⟩ := h
  obtain ⟨rfl, hb, ht, hq, rfl, rfl, hg, rfl, hw⟩ := q_Xd hX
  obtain ⟨g1, g2, g3, g4, g5, g6, g7, g8, g9, g10⟩ := id hG
  obtain ⟨m1, m2, m3, m4, m5, m6, m7⟩ := id hM
  rcases q_el x1 (n := n) (by omega) with hx | ⟨x, hx, rfl⟩
  · exact s_has2F1 hx ⟨fun z => absurd rfl z, fun _ => s_isElF m1 g1 g2 hx ⟨fun _ => ⟨rfl, h0⟩, fun z => absurd rfl z⟩⟩
  · rcases q_el x2 (n := n) (by omega) with hy | ⟨y, hy, rfl⟩
    · exact s_has2F2 g2 hx hy ⟨fun z => absurd rfl z, fun _ => s_isElT m1 g2 hx ⟨fun z => absurd z (by decide), fun _ => s_isElF m1 g1 g2 hy ⟨fun _ => ⟨rfl, h0⟩, fun z => absurd rfl z⟩⟩⟩
    · refine s_has2T g2 hx hy ⟨fun _ => s_product g2 ht hx hy (s_isElT m1 g2 hx ⟨fun z => absurd z (by decide), fun _ => s_isElT m1 g2 hy ⟨fun z => absurd z (by decide), fun _ => ⟨pk_in (6 * x + y) 88 (by omega) (hx := q_ix x y), ?_⟩⟩⟩), fun z => absurd z (by decide)⟩
      rw [pk_cl (6 * x + y) (q_ix x y), q_tb0 m2 hx hy]
      exact ⟨rfl, h0⟩

theorem st_weight {f_x_present_operation_size : Int32} {f_x_present_operation_badColumn : Int32} {a_x_present_operation_products_cells : Nat → Int32} {a_x_present_operation_quotients_cells : Nat → Int32} {f_x_present_braid_strands : Int32} {f_x_present_braid_count : Int32} {a_x_present_braid_crossings : Nat → Int32} {f_x_present_weights_modulus : Int32} {a_x_present_weights_values_cells : Nat → Int32} {f_x_history_count : Int32} {P_x_history_past : Nat → qn_St} {f_m_edits : Int32} {a_m_now : Nat → Int32} {a_m_history : Nat → Int32} (h : qn_Inv (f_x_present_operation_size, f_x_present_operation_badColumn, a_x_present_operation_products_cells, a_x_present_operation_quotients_cells, f_x_present_braid_strands, f_x_present_braid_count, a_x_present_braid_crossings, f_x_present_weights_modulus, a_x_present_weights_values_cells) f_x_history_count P_x_history_past a_m_now a_m_history f_m_edits) (x1 x2 : Int32) : wp_X9_weight (fun (r : Int32) => wp_X10_weight (fun (r2 : Int32) => r = r2 ∧ qn_Inv (f_x_present_operation_size, f_x_present_operation_badColumn, a_x_present_operation_products_cells, a_x_present_operation_quotients_cells, f_x_present_braid_strands, f_x_present_braid_count, a_x_present_braid_crossings, f_x_present_weights_modulus, a_x_present_weights_values_cells) f_x_history_count P_x_history_past a_m_now a_m_history f_m_edits) a_m_now x1 x2) f_x_present_operation_size a_x_present_weights_values_cells x1 x2 := by
  have h0 := h
  obtain ⟨c, hc, rfl, rfl, ⟨n, s, k, m, t, w, g, hG, hX, hM⟩, hH⟩ := h
  obtain ⟨rfl, hb, ht, hq, rfl, rfl, hg, rfl, hw⟩ := q_Xd hX
  obtain ⟨g1, g2, g3, g4, g5, g6, g7, g8, g9, g10⟩ := id hG
  obtain ⟨m1, m2, m3, m4, m5, m6, m7⟩ := id hM
  rcases q_el x1 (n := n) (by omega) with hx | ⟨x, hx, rfl⟩
  · exact s_has2F1 hx ⟨fun z => absurd rfl z, fun _ => s_isElF m1 g1 g2 hx ⟨fun _ => ⟨rfl, h0⟩, fun z => absurd rfl z⟩⟩
  · rcases q_el x2 (n := n) (by omega) with hy | ⟨y, hy, rfl⟩
    · exact s_has2F2 g2 hx hy ⟨fun z => absurd rfl z, fun _ => s_isElT m1 g2 hx ⟨fun z => absurd z (by decide), fun _ => s_isElF m1 g1 g2 hy ⟨fun _ => ⟨rfl, h0⟩, fun z => absurd rfl z⟩⟩⟩
    · refine s_has2T g2 hx hy ⟨fun _ => s_get (by omega) (by omega) ?_, fun z => absurd z (by decide)⟩
      rw [q_tb0 hw hx hy]
      exact s_isElT m1 g2 hx ⟨fun z => absurd z (by decide), fun _ => s_isElT m1 g2 hy ⟨fun z => absurd z (by decide), fun _ => s_wOf g2 m7 hx hy ⟨rfl, h0⟩⟩⟩

theorem st_quotient {f_x_present_operation_size : Int32} {f_x_present_operation_badColumn : Int32} {a_x_present_operation_products_cells : Nat → Int32} {a_x_present_operation_quotients_cells : Nat → Int32} {f_x_present_braid_strands : Int32} {f_x_present_braid_count : Int32} {a_x_present_braid_crossings : Nat → Int32} {f_x_present_weights_modulus : Int32} {a_x_present_weights_values_cells : Nat → Int32} {f_x_history_count : Int32} {P_x_history_past : Nat → qn_St} {f_m_edits : Int32} {a_m_now : Nat → Int32} {a_m_history : Nat → Int32} {a_m_over : Nat → Int32} (h : qn_Inv (f_x_present_operation_size, f_x_present_operation_badColumn, a_x_present_operation_products_cells, a_x_present_operation_quotients_cells, f_x_present_braid_strands, f_x_present_braid_count, a_x_present_braid_crossings, f_x_present_weights_modulus, a_x_present_weights_values_cells) f_x_history_count P_x_history_past a_m_now a_m_history f_m_edits) (x1 x2 : Int32) : wp_X9_quotient (fun (r : Int32) => wp_X10_quotient (fun (r2 : Int32) (a_m_over' : Nat → Int32) => r = r2 ∧ qn_Inv (f_x_present_operation_size, f_x_present_operation_badColumn, a_x_present_operation_products_cells, a_x_present_operation_quotients_cells, f_x_present_braid_strands, f_x_present_braid_count, a_x_present_braid_crossings, f_x_present_weights_modulus, a_x_present_weights_values_cells) f_x_history_count P_x_history_past a_m_now a_m_history f_m_edits) a_m_now a_m_over x1 x2) f_x_present_operation_size f_x_present_operation_badColumn a_x_present_operation_quotients_cells x1 x2 := by
  have h0 := h
  obtain ⟨c, hc, rfl, rfl, ⟨n, s, k, m, t, w, g, hG, hX, hM⟩, hH⟩ := h
  obtain ⟨rfl, hb, ht, hq, rfl, rfl, hg, rfl, hw⟩ := q_Xd hX
  obtain ⟨g1, g2, g3, g4, g5, g6, g7, g8, g9, g10⟩ := id hG
  obtain ⟨m1, m2, m3, m4, m5, m6, m7⟩ := id hM
  rcases q_el x1 (n := n) (by omega) with hx | ⟨x, hx, rfl⟩
  · exact s_has2F1 hx ⟨fun z => absurd rfl z, fun _ => s_isElF m1 g1 g2 hx ⟨fun _ => ⟨rfl, h0⟩, fun z => absurd rfl z⟩⟩
  · rcases q_el x2 (n := n) (by omega) with hy | ⟨y, hy, rfl⟩
    · exact s_has2F2 g2 hx hy ⟨fun z => absurd rfl z, fun _ => s_isElT m1 g2 hx ⟨fun z => absurd z (by decide), fun _ => s_isElF m1 g1 g2 hy ⟨fun z => absurd rfl z, fun _ => ⟨rfl, h0⟩⟩⟩⟩
    · refine s_has2T g2 hx hy ⟨fun _ => ?_, fun z => absurd z (by decide)⟩
      rcases q_badI g2 hb with ⟨rfl, hi⟩ | ⟨hne, hni⟩
      · refine s_invT ⟨fun _ => s_divide g2 g8 hq (hi y hy) hx hy (s_isElT m1 g2 hx ⟨fun z => absurd z (by decide), fun _ => s_isElT m1 g2 hy ⟨fun _ => s_column g2 g8 m1 m2 (fun b o hb' ho => ?_), fun z => absurd z (by decide)⟩⟩), fun z => absurd z (by decide)⟩
        obtain rfl := q_bad1 g2 hb' hb
        refine ⟨fun z => absurd rfl z, fun _ => ⟨pk_in (6 * x + y) 36 (by omega) (hx := q_ix x y), ?_⟩⟩
        rw [pk_cl (6 * x + y) (q_ix x y), q_qt g8 (ho hi) (hi y hy) hx hy]
        exact ⟨rfl, h0⟩
      · refine s_invF hne ⟨fun z => absurd rfl z, fun _ => s_isElT m1 g2 hx ⟨fun z => absurd z (by decide), fun _ => s_isElT m1 g2 hy ⟨fun _ => s_column g2 g8 m1 m2 (fun b o hb' ho => ?_), fun z => absurd z (by decide)⟩⟩⟩
        obtain rfl := q_bad1 g2 hb' hb
        exact ⟨fun _ => ⟨rfl, h0⟩, fun z => absurd z hne⟩

theorem st_nonInvertibleColumn {f_x_present_operation_size : Int32} {f_x_present_operation_badColumn : Int32} {a_x_present_operation_products_cells : Nat → Int32} {a_x_present_operation_quotients_cells : Nat → Int32} {f_x_present_braid_strands : Int32} {f_x_present_braid_count : Int32} {a_x_present_braid_crossings : Nat → Int32} {f_x_present_weights_modulus : Int32} {a_x_present_weights_values_cells : Nat → Int32} {f_x_history_count : Int32} {P_x_history_past : Nat → qn_St} {f_m_edits : Int32} {a_m_now : Nat → Int32} {a_m_history : Nat → Int32} {a_m_over : Nat → Int32} (h : qn_Inv (f_x_present_operation_size, f_x_present_operation_badColumn, a_x_present_operation_products_cells, a_x_present_operation_quotients_cells, f_x_present_braid_strands, f_x_present_braid_count, a_x_present_braid_crossings, f_x_present_weights_modulus, a_x_present_weights_values_cells) f_x_history_count P_x_history_past a_m_now a_m_history f_m_edits) : wp_X9_nonInvertibleColumn (fun (r : Int32) => wp_X10_nonInvertibleColumn (fun (r2 : Int32) (a_m_over' : Nat → Int32) => r = r2 ∧ qn_Inv (f_x_present_operation_size, f_x_present_operation_badColumn, a_x_present_operation_products_cells, a_x_present_operation_quotients_cells, f_x_present_braid_strands, f_x_present_braid_count, a_x_present_braid_crossings, f_x_present_weights_modulus, a_x_present_weights_values_cells) f_x_history_count P_x_history_past a_m_now a_m_history f_m_edits) a_m_now a_m_over) f_x_present_operation_badColumn := by
  have h0 := h
  obtain ⟨c, hc, rfl, rfl, ⟨n, s, k, m, t, w, g, hG, hX, hM⟩, hH⟩ := h
  obtain ⟨rfl, hb, ht, hq, rfl, rfl, hg, rfl, hw⟩ := q_Xd hX
  obtain ⟨g1, g2, g3, g4, g5, g6, g7, g8, g9, g10⟩ := id hG
  obtain ⟨m1, m2, m3, m4, m5, m6, m7⟩ := id hM
  exact s_column g2 g8 m1 m2 (fun b o hb' ho => ⟨q_bad1 g2 hb hb', h0⟩)

theorem st_setEntry {f_x_present_operation_size : Int32} {f_x_present_operation_badColumn : Int32} {a_x_present_operation_products_cells : Nat → Int32} {a_x_present_operation_quotients_cells : Nat → Int32} {f_x_present_braid_strands : Int32} {f_x_present_braid_count : Int32} {a_x_present_braid_crossings : Nat → Int32} {f_x_present_weights_modulus : Int32} {a_x_present_weights_values_cells : Nat → Int32} {f_x_history_count : Int32} {pa_x_history_past : Nat → Nat → Nat} {P_x_history_past : Nat → qn_St} {f_m_edits : Int32} {a_m_now : Nat → Int32} {a_m_history : Nat → Int32} (h : qn_Inv (f_x_present_operation_size, f_x_present_operation_badColumn, a_x_present_operation_products_cells, a_x_present_operation_quotients_cells, f_x_present_braid_strands, f_x_present_braid_count, a_x_present_braid_crossings, f_x_present_weights_modulus, a_x_present_weights_values_cells) f_x_history_count P_x_history_past a_m_now a_m_history f_m_edits) (x1 x2 x3 : Int32) : wp_X9_setEntry (fun (r : Int32) (f_x_present_operation_badColumn' : Int32) (a_x_present_operation_products_cells' : Nat → Int32) (a_x_present_operation_quotients_cells' : Nat → Int32) (f_x_history_count' : Int32) (pa_x_history_past' : Nat → Nat → Nat) (P_x_history_past' : Nat → qn_St) => wp_X10_setEntry (fun (r2 : Int32) (f_m_edits' : Int32) (a_m_now' : Nat → Int32) (a_m_history' : Nat → Int32) => r = r2 ∧ qn_Inv (f_x_present_operation_size, f_x_present_operation_badColumn', a_x_present_operation_products_cells', a_x_present_operation_quotients_cells', f_x_present_braid_strands, f_x_present_braid_count, a_x_present_braid_crossings, f_x_present_weights_modulus, a_x_present_weights_values_cells) (f_x_history_count') (P_x_history_past') (a_m_now') (a_m_history') (f_m_edits')) f_m_edits a_m_now a_m_history x1 x2 x3) f_x_present_operation_size f_x_present_operation_badColumn a_x_present_operation_products_cells a_x_present_operation_quotients_cells f_x_present_braid_strands f_x_present_braid_count a_x_present_braid_crossings f_x_present_weights_modulus a_x_present_weights_values_cells f_x_history_count pa_x_history_past P_x_history_past x1 x2 x3 := by
  have h0 := h
  obtain ⟨c, hc, rfl, rfl, ⟨n, s, k, m, t, w, g, hG, hX, hM⟩, hH⟩ := h
  obtain ⟨rfl, hb, ht, hq, rfl, rfl, hg, rfl, hw⟩ := q_Xd hX
  obtain ⟨g1, g2, g3, g4, g5, g6, g7, g8, g9, g10⟩ := id hG
  obtain ⟨m1, m2, m3, m4, m5, m6, m7⟩ := id hM
  rcases q_el x1 (n := n) (by omega) with hx | ⟨x, hx, rfl⟩
  · exact s_has2F1 hx ⟨fun _ => s_isElF m1 g1 g2 hx ⟨fun _ => ⟨rfl, h0⟩, fun z => absurd rfl z⟩, fun z => absurd rfl z⟩
  · rcases q_el x2 (n := n) (by omega) with hy | ⟨y, hy, rfl⟩
    · exact s_has2F2 g2 hx hy ⟨fun _ => s_isElT m1 g2 hx ⟨fun z => absurd z (by decide), fun _ => s_isElF m1 g1 g2 hy ⟨fun _ => ⟨rfl, h0⟩, fun z => absurd rfl z⟩⟩, fun z => absurd rfl z⟩
    · rcases q_el x3 (n := n) (by omega) with hv | ⟨v, hv, rfl⟩
      · exact s_has2T g2 hx hy ⟨fun z => absurd z (by decide), fun _ => s_hasF hv ⟨fun z => absurd rfl z, fun _ => s_isElT m1 g2 hx ⟨fun z => absurd z (by decide), fun _ => s_isElT m1 g2 hy ⟨fun z => absurd z (by decide), fun _ => s_isElF m1 g1 g2 hv ⟨fun z => absurd rfl z, fun _ => ⟨rfl, h0⟩⟩⟩⟩⟩⟩
      · refine s_has2T g2 hx hy ⟨fun z => absurd z (by decide), fun _ => s_hasT g2 hv ⟨fun _ => s_remember hc (fun pa' P' hP => s_product g2 ht hx hy (s_setProd g1 g2 g8 ht hx hy hv (fun b p' q' hb' hp' hq' => ?_))), fun z => absurd z (by decide)⟩⟩
        refine s_isElT m1 g2 hx ⟨fun z => absurd z (by decide), fun _ => s_isElT m1 g2 hy ⟨fun z => absurd z (by decide), fun _ => s_isElT m1 g2 hv ⟨fun _ => s_edit hc (fun H' hE => ⟨pk_in (6 * x + y) 88 (by omega) (hx := q_ix x y), nm_r (e' := nI (t x y)) (by rw [pk_cl (6 * x + y) (q_ix x y), q_tb0 m2 hx hy]) ⟨pk_in (6 * x + y) 88 (by omega) (hx := q_ix x y), nm_r (by rw [pk_cl (6 * x + y) (q_ix x y)]) ⟨rfl, ?_⟩⟩⟩), fun z => absurd z (by decide)⟩⟩⟩
        have h2 := q_u2tb (v := v) g2 hx hy m2
        rw [Nat.zero_add] at h2
        refine ⟨qn_nx c, q_nx5 c hc, rfl, rfl, ⟨n, s, k, m, qn_u2 t x y v, w, g, ⟨g1, g2, g3, g4, g5, g6, g7, q_u2lt g8 hv, g9, g10⟩, ⟨rfl, hb', hp', hq', rfl, rfl, hg, rfl, hw⟩, ⟨?_, h2, ?_, ?_, fun j hj => ?_, ?_, fun a b ha hb => ?_⟩⟩, q_push hc ⟨n, s, k, m, t, w, g, hG, hX, hM⟩ hH hP hE⟩
        · rw [pk_un (by omega)]; exact m1
        · rw [pk_un (by omega)]; exact m3
        · rw [pk_un (by omega)]; exact m4
        · rw [pk_un (by omega)]; exact m5 j hj
        · rw [pk_un (by omega)]; exact m6
        · rw [pk_un (by omega)]; exact m7 a b ha hb

theorem st_setWeight {f_x_present_operation_size : Int32} {f_x_present_operation_badColumn : Int32} {a_x_present_operation_products_cells : Nat → Int32} {a_x_present_operation_quotients_cells : Nat → Int32} {f_x_present_braid_strands : Int32} {f_x_present_braid_count : Int32} {a_x_present_braid_crossings : Nat → Int32} {f_x_present_weights_modulus : Int32} {a_x_present_weights_values_cells : Nat → Int32} {f_x_history_count : Int32} {pa_x_history_past : Nat → Nat → Nat} {P_x_history_past : Nat → qn_St} {f_m_edits : Int32} {a_m_now : Nat → Int32} {a_m_history : Nat → Int32} (h : qn_Inv (f_x_present_operation_size, f_x_present_operation_badColumn, a_x_present_operation_products_cells, a_x_present_operation_quotients_cells, f_x_present_braid_strands, f_x_present_braid_count, a_x_present_braid_crossings, f_x_present_weights_modulus, a_x_present_weights_values_cells) f_x_history_count P_x_history_past a_m_now a_m_history f_m_edits) (x1 x2 x3 : Int32) : wp_X9_setWeight (fun (r : Int32) (a_x_present_weights_values_cells' : Nat → Int32) (f_x_history_count' : Int32) (pa_x_history_past' : Nat → Nat → Nat) (P_x_history_past' : Nat → qn_St) => wp_X10_setWeight (fun (r2 : Int32) (f_m_edits' : Int32) (a_m_now' : Nat → Int32) (a_m_history' : Nat → Int32) => r = r2 ∧ qn_Inv (f_x_present_operation_size, f_x_present_operation_badColumn, a_x_present_operation_products_cells, a_x_present_operation_quotients_cells, f_x_present_braid_strands, f_x_present_braid_count, a_x_present_braid_crossings, f_x_present_weights_modulus, a_x_present_weights_values_cells') (f_x_history_count') (P_x_history_past') (a_m_now') (a_m_history') (f_m_edits')) f_m_edits a_m_now a_m_history x1 x2 x3) f_x_present_operation_size f_x_present_operation_badColumn a_x_present_operation_products_cells a_x_present_operation_quotients_cells f_x_present_braid_strands f_x_present_braid_count a_x_present_braid_crossings f_x_present_weights_modulus a_x_present_weights_values_cells f_x_history_count pa_x_history_past P_x_history_past x1 x2 x3 := by
  have h0 := h
  obtain ⟨c, hc, rfl, rfl, ⟨n, s, k, m, t, w, g, hG, hX, hM⟩, hH⟩ := h
  obtain ⟨rfl, hb, ht, hq, rfl, rfl, hg, rfl, hw⟩ := q_Xd hX
  obtain ⟨g1, g2, g3, g4, g5, g6, g7, g8, g9, g10⟩ := id hG
  obtain ⟨m1, m2, m3, m4, m5, m6, m7⟩ := id hM
  rcases q_el x1 (n := n) (by omega) with hx | ⟨x, hx, rfl⟩
  · exact s_has2F1 hx ⟨fun _ => s_isElF m1 g1 g2 hx ⟨fun _ => ⟨rfl, h0⟩, fun z => absurd rfl z⟩, fun z => absurd rfl z⟩
  · rcases q_el x2 (n := n) (by omega) with hy | ⟨y, hy, rfl⟩
    · exact s_has2F2 g2 hx hy ⟨fun _ => s_isElT m1 g2 hx ⟨fun z => absurd z (by decide), fun _ => s_isElF m1 g1 g2 hy ⟨fun _ => ⟨rfl, h0⟩, fun z => absurd rfl z⟩⟩, fun z => absurd rfl z⟩
    · rcases q_el x3 (n := m) (by omega) with hv | ⟨v, hv, rfl⟩
      · refine s_has2T g2 hx hy ⟨fun z => absurd z (by decide), fun _ => s_wallF hv ⟨fun z => absurd rfl z, fun _ => s_isElT m1 g2 hx ⟨fun z => absurd z (by decide), fun _ => s_isElT m1 g2 hy ⟨fun z => absurd z (by decide), fun _ => ⟨pk_in 87 88 (by omega), ?_⟩⟩⟩⟩⟩
        rw [q87, m6]
        exact q_inw g6 g7 hv ⟨fun z => absurd rfl z, fun _ => ⟨rfl, h0⟩⟩
      · refine s_has2T g2 hx hy ⟨fun z => absurd z (by decide), fun _ => s_wallT g7 hv ⟨fun _ => s_remember hc (fun pa' P' hP => s_get (by omega) (by omega) (s_put (by omega) (by omega) ?_)), fun z => absurd z (by decide)⟩⟩
        rw [q_tb0 hw hx hy]
        refine s_isElT m1 g2 hx ⟨fun z => absurd z (by decide), fun _ => s_isElT m1 g2 hy ⟨fun z => absurd z (by decide), fun _ => ⟨pk_in 87 88 (by omega), ?_⟩⟩⟩
        rw [q87, m6]
        refine q_inwT g7 hv ⟨fun _ => s_edit hc (fun H' hE => s_wOf g2 m7 hx hy ⟨pk_in (36 + (6 * x + y)) 88 (by omega) (hx := q_iw x y), nm_r (by rw [pk_cl (36 + (6 * x + y)) (q_iw x y)]) ⟨rfl, ?_⟩⟩), fun z => absurd z (by decide)⟩
        have h2 := q_u2tb (v := v) g2 hx hy hw
        rw [Nat.zero_add] at h2
        refine ⟨qn_nx c, q_nx5 c hc, rfl, rfl, ⟨n, s, k, m, t, qn_u2 w x y v, g, ⟨g1, g2, g3, g4, g5, g6, g7, g8, q_u2lt g9 hv, g10⟩, ⟨rfl, hb, ht, hq, rfl, rfl, hg, rfl, h2⟩, ⟨?_, fun a b ha hb => ?_, ?_, ?_, fun j hj => ?_, ?_, q_u2tb g2 hx hy m7⟩⟩, q_push hc ⟨n, s, k, m, t, w, g, hG, hX, hM⟩ hH hP hE⟩
        · rw [pk_un (by omega)]; exact m1
        · rw [pk_un (by omega)]; exact m2 a b ha hb
        · rw [pk_un (by omega)]; exact m3
        · rw [pk_un (by omega)]; exact m4
        · rw [pk_un (by omega)]; exact m5 j hj
        · rw [pk_un (by omega)]; exact m6

theorem st_setStrands {f_x_present_operation_size : Int32} {f_x_present_operation_badColumn : Int32} {a_x_present_operation_products_cells : Nat → Int32} {a_x_present_operation_quotients_cells : Nat → Int32} {f_x_present_braid_strands : Int32} {f_x_present_braid_count : Int32} {a_x_present_braid_crossings : Nat → Int32} {f_x_present_weights_modulus : Int32} {a_x_present_weights_values_cells : Nat → Int32} {f_x_history_count : Int32} {pa_x_history_past : Nat → Nat → Nat} {P_x_history_past : Nat → qn_St} {f_m_edits : Int32} {a_m_now : Nat → Int32} {a_m_history : Nat → Int32} (h : qn_Inv (f_x_present_operation_size, f_x_present_operation_badColumn, a_x_present_operation_products_cells, a_x_present_operation_quotients_cells, f_x_present_braid_strands, f_x_present_braid_count, a_x_present_braid_crossings, f_x_present_weights_modulus, a_x_present_weights_values_cells) f_x_history_count P_x_history_past a_m_now a_m_history f_m_edits) (x1 : Int32) : wp_X9_setStrands (fun (r : Int32) (f_x_present_braid_strands' : Int32) (f_x_present_braid_count' : Int32) (f_x_history_count' : Int32) (pa_x_history_past' : Nat → Nat → Nat) (P_x_history_past' : Nat → qn_St) => wp_X10_setStrands (fun (r2 : Int32) (f_m_edits' : Int32) (a_m_now' : Nat → Int32) (a_m_history' : Nat → Int32) => r = r2 ∧ qn_Inv (f_x_present_operation_size, f_x_present_operation_badColumn, a_x_present_operation_products_cells, a_x_present_operation_quotients_cells, f_x_present_braid_strands', f_x_present_braid_count', a_x_present_braid_crossings, f_x_present_weights_modulus, a_x_present_weights_values_cells) (f_x_history_count') (P_x_history_past') (a_m_now') (a_m_history') (f_m_edits')) f_m_edits a_m_now a_m_history x1) f_x_present_operation_size f_x_present_operation_badColumn a_x_present_operation_products_cells a_x_present_operation_quotients_cells f_x_present_braid_strands f_x_present_braid_count a_x_present_braid_crossings f_x_present_weights_modulus a_x_present_weights_values_cells f_x_history_count pa_x_history_past P_x_history_past x1 := by
  have h0 := h
  obtain ⟨c, hc, rfl, rfl, ⟨n, s, k, m, t, w, g, hG, hX, hM⟩, hH⟩ := h
  obtain ⟨rfl, hb, ht, hq, rfl, rfl, hg, rfl, hw⟩ := q_Xd hX
  obtain ⟨g1, g2, g3, g4, g5, g6, g7, g8, g9, g10⟩ := id hG
  obtain ⟨m1, m2, m3, m4, m5, m6, m7⟩ := id hM
  rcases q_tri x1 (a := 2) (b := 4) (by omega) (by omega) with hx | hx | ⟨z, h1, h2, rfl⟩
  · exact ⟨fun _ => s_inF (Or.inl hx) ⟨fun z => absurd rfl z, fun _ => ⟨rfl, h0⟩⟩, fun z => absurd hx z⟩
  · have h5 : ¬ x1 ≤ 4 := by
      have h6 : nI 4 < x1 := hx
      rw [fa_lt] at h6
      intro h7
      rw [fa_le] at h7
      have : (nI 4).toInt = (4 : Int32).toInt := rfl
      omega
    have h6 : ¬ x1 < 2 := by
      have h7 : nI 4 < x1 := hx
      rw [fa_lt] at h7
      intro h8
      rw [fa_lt] at h8
      have e1 : (nI 4).toInt = 4 := by decide
      have e2 : (2 : Int32).toInt = 2 := by decide
      omega
    exact ⟨fun z => absurd z h6, fun _ => ⟨fun z => absurd z h5, fun _ => s_inF (Or.inr hx) ⟨fun z => absurd rfl z, fun _ => ⟨rfl, h0⟩⟩⟩⟩
  · refine pk_lt z 2 (fun q => absurd q (by omega)) (fun _ => pk_le z 4 (fun _ => s_remember hc (fun pa' P' hP => ?_)) (fun q => absurd q (by omega)))
    unfold wp_X1_restart wp_X10_setStrands
    refine s_inT (b := 2) (c := 4) h1 h2 (by decide) ⟨fun _ => s_edit hc (fun H' hE => ⟨pk_in 85 88 (by omega), nm_r (e' := nI s) (by rw [q85, m3]) ⟨pk_in 85 88 (by omega), nm_r (by rw [q85]) ⟨pk_in 86 88 (by omega), nm_r (by rw [q86]) ⟨rfl, ?_⟩⟩⟩⟩), fun q => absurd q (by decide)⟩
    refine ⟨qn_nx c, q_nx5 c hc, rfl, rfl, ⟨n, z, 0, m, t, w, g, ⟨g1, g2, h1, h2, by omega, g6, g7, g8, g9, fun j hj => absurd hj (by omega)⟩, ⟨rfl, hb, ht, hq, rfl, rfl, fun j hj => absurd hj (by omega), rfl, hw⟩, ⟨?_, fun a b ha hb => ?_, ?_, ?_, fun j hj => absurd hj (by omega), ?_, fun a b ha hb => ?_⟩⟩, q_push hc ⟨n, s, k, m, t, w, g, hG, hX, hM⟩ hH hP hE⟩
    · rw [pk_un (by omega), pk_un (by omega)]; exact m1
    · rw [pk_un (by omega), pk_un (by omega)]; exact m2 a b ha hb
    · rw [pk_un (by omega), pk_us]
    · rw [pk_us]; rfl
    · rw [pk_un (by omega), pk_un (by omega)]; exact m6
    · rw [pk_un (by omega), pk_un (by omega)]; exact m7 a b ha hb

theorem st_appendCrossing {f_x_present_operation_size : Int32} {f_x_present_operation_badColumn : Int32} {a_x_present_operation_products_cells : Nat → Int32} {a_x_present_operation_quotients_cells : Nat → Int32} {f_x_present_braid_strands : Int32} {f_x_present_braid_count : Int32} {a_x_present_braid_crossings : Nat → Int32} {f_x_present_weights_modulus : Int32} {a_x_present_weights_values_cells : Nat → Int32} {f_x_history_count : Int32} {pa_x_history_past : Nat → Nat → Nat} {P_x_history_past : Nat → qn_St} {f_m_edits : Int32} {a_m_now : Nat → Int32} {a_m_history : Nat → Int32} (h : qn_Inv (f_x_present_operation_size, f_x_present_operation_badColumn, a_x_present_operation_products_cells, a_x_present_operation_quotients_cells, f_x_present_braid_strands, f_x_present_braid_count, a_x_present_braid_crossings, f_x_present_weights_modulus, a_x_present_weights_values_cells) f_x_history_count P_x_history_past a_m_now a_m_history f_m_edits) (x1 : Int32) : wp_X9_appendCrossing (fun (r : Int32) (f_x_present_braid_count' : Int32) (a_x_present_braid_crossings' : Nat → Int32) (f_x_history_count' : Int32) (pa_x_history_past' : Nat → Nat → Nat) (P_x_history_past' : Nat → qn_St) => wp_X10_appendCrossing (fun (r2 : Int32) (f_m_edits' : Int32) (a_m_now' : Nat → Int32) (a_m_history' : Nat → Int32) => r = r2 ∧ qn_Inv (f_x_present_operation_size, f_x_present_operation_badColumn, a_x_present_operation_products_cells, a_x_present_operation_quotients_cells, f_x_present_braid_strands, f_x_present_braid_count', a_x_present_braid_crossings', f_x_present_weights_modulus, a_x_present_weights_values_cells) (f_x_history_count') (P_x_history_past') (a_m_now') (a_m_history') (f_m_edits')) f_m_edits a_m_now a_m_history x1) f_x_present_operation_size f_x_present_operation_badColumn a_x_present_operation_products_cells a_x_present_operation_quotients_cells f_x_present_braid_strands f_x_present_braid_count a_x_present_braid_crossings f_x_present_weights_modulus a_x_present_weights_values_cells f_x_history_count pa_x_history_past P_x_history_past x1 := by
  have h0 := h
  obtain ⟨c, hc, rfl, rfl, ⟨n, s, k, m, t, w, g, hG, hX, hM⟩, hH⟩ := h
  obtain ⟨rfl, hb, ht, hq, rfl, rfl, hg, rfl, hw⟩ := q_Xd hX
  obtain ⟨g1, g2, g3, g4, g5, g6, g7, g8, g9, g10⟩ := id hG
  obtain ⟨m1, m2, m3, m4, m5, m6, m7⟩ := id hM
  have e85 : a_m_now (85 : Int32).toNatClampNeg - 1 = nI (s - 1) := by rw [q85, m3, q_pred (by omega)]
  rcases q_crc x1 g3 g4 with hx | hx
  · refine s_allF hx ⟨fun z => absurd rfl z, fun _ => ⟨pk_in 85 88 (by omega), nm_r e85 ?_⟩⟩
    rcases hx with rfl | hx
    · obtain ⟨a, b⟩ := q_m0 g3 g4
      exact ⟨fun z => absurd z a, fun _ => ⟨fun z => absurd z b, fun _ => ⟨fun z => absurd z (by decide), fun _ => ⟨fun z => absurd rfl z, fun _ => ⟨rfl, h0⟩⟩⟩⟩⟩
    · exact s_inF (q_crm g3 g4 hx) ⟨fun _ => ⟨rfl, h0⟩, fun z => absurd rfl z⟩
  · obtain ⟨a1, a2, a3, a4, a5⟩ := q_cr2 g4 hx
    refine s_allT g4 hx ⟨fun _ => pk_lt k 12 (fun hk => s_remember hc (fun pa' P' hP => s_append hk ?_)) (fun hk => ?_), fun z => absurd z (by decide)⟩
    · refine ⟨pk_in 85 88 (by omega), nm_r e85 ⟨fun z => absurd z a4, fun _ => ⟨fun z => absurd z a5, fun _ => ⟨fun z => absurd z (by decide), fun _ => ⟨fun _ => ⟨pk_in 86 88 (by omega), ?_⟩, fun z => absurd z a1⟩⟩⟩⟩⟩
      have e72 : (72 : Int32) + a_m_now (86 : Int32).toNatClampNeg = nI (72 + k) := by rw [q86, m4]; exact nI_add 72 k
      have e12 : ¬ a_m_now (86 : Int32).toNatClampNeg = 12 := by
        rw [q86, m4]
        intro z
        exact absurd ((nI_eq (b := 12) (by omega) (by decide)).mp z) (by omega)
      refine ⟨fun _ => s_edit hc (fun H' hE => ⟨pk_in 86 88 (by omega), pk_in (72 + k) 88 (by omega) (hx := e72), nm_r (by rw [pk_cl (72 + k) e72]) ⟨pk_in 86 88 (by omega), pk_in 86 88 (by omega), nm_r (e' := upd (upd a_m_now (72 + k) x1) 86 (nI (k + 1))) (by rw [q86, pk_un (by omega), m4, nI_1]) ⟨pk_in 86 88 (by omega), ?_⟩⟩⟩), fun z => absurd z e12⟩
      rw [q86, pk_us]
      refine ⟨rfl, ⟨qn_nx c, q_nx5 c hc, rfl, rfl, ⟨n, s, k + 1, m, t, w, upd g k x1, ⟨g1, g2, g3, g4, by omega, g6, g7, g8, g9, fun j hj => ?_⟩, ⟨rfl, hb, ht, hq, rfl, rfl, fun j hj => ?_, rfl, hw⟩, ⟨?_, fun a b ha hb => ?_, ?_, ?_, fun j hj => ?_, ?_, fun a b ha hb => ?_⟩⟩, q_push hc ⟨n, s, k, m, t, w, g, hG, hX, hM⟩ hH hP hE⟩⟩
      · by_cases e : j = k
        · rw [e, pk_us]; exact hx
        · rw [pk_un e]; exact g10 j (by omega)
      · show upd _ k x1 j = upd g k x1 j
        by_cases e : j = k
        · rw [e, pk_us, pk_us]
        · rw [pk_un e, pk_un e]; exact hg j (by omega)
      · rw [pk_un (by omega), pk_un (by omega)]; exact m1
      · rw [pk_un (by omega), pk_un (by omega)]; exact m2 a b ha hb
      · rw [pk_un (by omega), pk_un (by omega)]; exact m3
      · rw [pk_us]
      · rw [pk_un (by omega)]
        by_cases e : j = k
        · rw [e, pk_us, pk_us]
        · rw [pk_un (by omega), pk_un e]; exact m5 j (by omega)
      · rw [pk_un (by omega), pk_un (by omega)]; exact m6
      · rw [pk_un (by omega), pk_un (by omega)]; exact m7 a b ha hb
    · have ek : k = 12 := by omega
      have e12 : a_m_now (86 : Int32).toNatClampNeg = 12 := by rw [q86, m4, ek]; rfl
      exact ⟨pk_in 85 88 (by omega), nm_r e85 ⟨fun z => absurd z a4, fun _ => ⟨fun z => absurd z a5, fun _ => ⟨fun z => absurd z (by decide), fun _ => ⟨fun _ => ⟨pk_in 86 88 (by omega), fun z => absurd e12 z, fun _ => ⟨rfl, h0⟩⟩, fun z => absurd z a1⟩⟩⟩⟩⟩

theorem st_removeCrossing {f_x_present_operation_size : Int32} {f_x_present_operation_badColumn : Int32} {a_x_present_operation_products_cells : Nat → Int32} {a_x_present_operation_quotients_cells : Nat → Int32} {f_x_present_braid_strands : Int32} {f_x_present_braid_count : Int32} {a_x_present_braid_crossings : Nat → Int32} {f_x_present_weights_modulus : Int32} {a_x_present_weights_values_cells : Nat → Int32} {f_x_history_count : Int32} {pa_x_history_past : Nat → Nat → Nat} {P_x_history_past : Nat → qn_St} {f_m_edits : Int32} {a_m_now : Nat → Int32} {a_m_history : Nat → Int32} (h : qn_Inv (f_x_present_operation_size, f_x_present_operation_badColumn, a_x_present_operation_products_cells, a_x_present_operation_quotients_cells, f_x_present_braid_strands, f_x_present_braid_count, a_x_present_braid_crossings, f_x_present_weights_modulus, a_x_present_weights_values_cells) f_x_history_count P_x_history_past a_m_now a_m_history f_m_edits) : wp_X9_removeCrossing (fun (r : Int32) (f_x_present_braid_count' : Int32) (f_x_history_count' : Int32) (pa_x_history_past' : Nat → Nat → Nat) (P_x_history_past' : Nat → qn_St) => wp_X10_removeCrossing (fun (r2 : Int32) (f_m_edits' : Int32) (a_m_now' : Nat → Int32) (a_m_history' : Nat → Int32) => r = r2 ∧ qn_Inv (f_x_present_operation_size, f_x_present_operation_badColumn, a_x_present_operation_products_cells, a_x_present_operation_quotients_cells, f_x_present_braid_strands, f_x_present_braid_count', a_x_present_braid_crossings, f_x_present_weights_modulus, a_x_present_weights_values_cells) (f_x_history_count') (P_x_history_past') (a_m_now') (a_m_history') (f_m_edits')) f_m_edits a_m_now a_m_history) f_x_present_operation_size f_x_present_operation_badColumn a_x_present_operation_products_cells a_x_present_operation_quotients_cells f_x_present_braid_strands f_x_present_braid_count a_x_present_braid_crossings f_x_present_weights_modulus a_x_present_weights_values_cells f_x_history_count pa_x_history_past P_x_history_past := by
  have h0 := h
  obtain ⟨c, hc, rfl, rfl, ⟨n, s, k, m, t, w, g, hG, hX, hM⟩, hH⟩ := h
  obtain ⟨rfl, hb, ht, hq, rfl, rfl, hg, rfl, hw⟩ := q_Xd hX
  obtain ⟨g1, g2, g3, g4, g5, g6, g7, g8, g9, g10⟩ := id hG
  obtain ⟨m1, m2, m3, m4, m5, m6, m7⟩ := id hM
  by_cases hk : k = 0
  · subst hk
    have e0 : a_m_now (86 : Int32).toNatClampNeg = 0 := by rw [q86, m4]; rfl
    exact ⟨fun z => absurd rfl z, fun _ => ⟨pk_in 86 88 (by omega), fun z => absurd e0 z, fun _ => ⟨rfl, h0⟩⟩⟩
  · obtain ⟨k', rfl⟩ : ∃ k', k = k' + 1 := ⟨k - 1, by omega⟩
    have hne : ¬ nI (k' + 1) = 0 := nI_ne0 (by omega) (by omega)
    refine ⟨fun _ => s_remember hc (fun pa' P' hP => s_removeLast g5 ?_), fun z => absurd z hne⟩
    rw [hg k' (by omega)]
    refine nm_e ⟨pk_in 86 88 (by omega), fun _ => s_edit hc (fun H' hE => ⟨pk_in 86 88 (by omega), pk_in 86 88 (by omega), nm_r (e' := upd a_m_now 86 (nI k')) (by rw [q86, m4, nI_pred]) ⟨pk_in 86 88 (by omega), ?_⟩⟩), fun z => absurd (by rw [q86, m4] at z; exact z) hne⟩
    have e72 : (72 : Int32) + upd a_m_now 86 (nI k') (86 : Int32).toNatClampNeg = nI (72 + k') := by rw [q86, pk_us]; exact nI_add 72 k'
    refine ⟨pk_in (72 + k') 88 (by omega) (hx := e72), nm_r (e' := g k') (by rw [pk_cl (72 + k') e72, pk_un (by omega), m5 k' (by omega)]) ?_⟩
    have fin : ∀ z : Int32, (if 0 ≤ g k' then g k' else 0 - g k') = z → (if 0 ≤ g k' then g k' else 0 - g k') = z ∧ qn_Inv (nI n, f_x_present_operation_badColumn, a_x_present_operation_products_cells, a_x_present_operation_quotients_cells, nI s, nI k', a_x_present_braid_crossings, nI m, a_x_present_weights_values_cells) (nI (qn_nx c)) P' (upd a_m_now 86 (nI k')) H' (nI (qn_nx c)) := fun z ez => by
      refine ⟨ez, ⟨qn_nx c, q_nx5 c hc, rfl, rfl, ⟨n, s, k', m, t, w, g, ⟨g1, g2, g3, g4, by omega, g6, g7, g8, g9, fun j hj => g10 j (by omega)⟩, ⟨rfl, hb, ht, hq, rfl, rfl, fun j hj => hg j (by omega), rfl, hw⟩, ⟨?_, fun a b ha hb => ?_, ?_, ?_, fun j hj => ?_, ?_, fun a b ha hb => ?_⟩⟩, q_push hc ⟨n, s, k' + 1, m, t, w, g, hG, hX, hM⟩ hH hP hE⟩⟩
      · rw [pk_un (by omega)]; exact m1
      · rw [pk_un (by omega)]; exact m2 a b ha hb
      · rw [pk_un (by omega)]; exact m3
      · rw [pk_us]
      · rw [pk_un (by omega)]; exact m5 j (by omega)
      · rw [pk_un (by omega)]; exact m6
      · rw [pk_un (by omega)]; exact m7 a b ha hb
    exact ⟨fun z => fin _ (if_pos z), fun z => fin _ (by rw [if_neg z, Int32.zero_sub])⟩

theorem st_undo {f_x_present_operation_size : Int32} {f_x_present_operation_badColumn : Int32} {a_x_present_operation_products_cells : Nat → Int32} {a_x_present_operation_quotients_cells : Nat → Int32} {f_x_present_braid_strands : Int32} {f_x_present_braid_count : Int32} {a_x_present_braid_crossings : Nat → Int32} {f_x_present_weights_modulus : Int32} {a_x_present_weights_values_cells : Nat → Int32} {f_x_history_count : Int32} {P_x_history_past : Nat → qn_St} {f_m_edits : Int32} {a_m_now : Nat → Int32} {a_m_history : Nat → Int32} (h : qn_Inv (f_x_present_operation_size, f_x_present_operation_badColumn, a_x_present_operation_products_cells, a_x_present_operation_quotients_cells, f_x_present_braid_strands, f_x_present_braid_count, a_x_present_braid_crossings, f_x_present_weights_modulus, a_x_present_weights_values_cells) f_x_history_count P_x_history_past a_m_now a_m_history f_m_edits) : wp_X9_undo (fun (r : Int32) (f_x_present_operation_size' : Int32) (f_x_present_operation_badColumn' : Int32) (a_x_present_operation_products_cells' : Nat → Int32) (a_x_present_operation_quotients_cells' : Nat → Int32) (f_x_present_braid_strands' : Int32) (f_x_present_braid_count' : Int32) (a_x_present_braid_crossings' : Nat → Int32) (f_x_present_weights_modulus' : Int32) (a_x_present_weights_values_cells' : Nat → Int32) (f_x_history_count' : Int32) => wp_X10_undo (fun (r2 : Int32) (f_m_edits' : Int32) (a_m_now' : Nat → Int32) => r = r2 ∧ qn_Inv (f_x_present_operation_size', f_x_present_operation_badColumn', a_x_present_operation_products_cells', a_x_present_operation_quotients_cells', f_x_present_braid_strands', f_x_present_braid_count', a_x_present_braid_crossings', f_x_present_weights_modulus', a_x_present_weights_values_cells') (f_x_history_count') P_x_history_past (a_m_now') a_m_history (f_m_edits')) f_m_edits a_m_now a_m_history) f_x_present_operation_size f_x_present_operation_badColumn a_x_present_operation_products_cells a_x_present_operation_quotients_cells f_x_present_braid_strands f_x_present_braid_count a_x_present_braid_crossings f_x_present_weights_modulus a_x_present_weights_values_cells f_x_history_count P_x_history_past := by
  have h0 := h
  obtain ⟨c, hc, rfl, rfl, ⟨n, s, k, m, t, w, g, hG, hX, hM⟩, hH⟩ := h
  obtain ⟨rfl, hb, ht, hq, rfl, rfl, hg, rfl, hw⟩ := q_Xd hX
  obtain ⟨g1, g2, g3, g4, g5, g6, g7, g8, g9, g10⟩ := id hG
  obtain ⟨m1, m2, m3, m4, m5, m6, m7⟩ := id hM
  by_cases hc0 : c = 0
  · subst hc0
    exact ⟨fun z => absurd rfl z, fun _ => ⟨fun z => absurd rfl z, fun _ => ⟨rfl, h0⟩⟩⟩
  · obtain ⟨c', rfl⟩ : ∃ c', c = c' + 1 := ⟨c - 1, by omega⟩
    refine ⟨fun _ => s_restore (by omega) (fun u hu => s_mUndo (by omega) (fun N' hN => ⟨rfl, ⟨c', by omega, rfl, rfl, q_Rcp (hH c' (by omega)) hu hN, fun i hi => hH i (by omega)⟩⟩)), fun z => absurd z (nI_ne0 (by omega) (by omega))⟩

theorem st_loadTrivial {f_x_present_operation_size : Int32} {f_x_present_operation_badColumn : Int32} {a_x_present_operation_products_cells : Nat → Int32} {a_x_present_operation_quotients_cells : Nat → Int32} {f_x_present_braid_strands : Int32} {f_x_present_braid_count : Int32} {a_x_present_braid_crossings : Nat → Int32} {f_x_present_weights_modulus : Int32} {a_x_present_weights_values_cells : Nat → Int32} {f_x_history_count : Int32} {pa_x_history_past : Nat → Nat → Nat} {P_x_history_past : Nat → qn_St} {f_m_edits : Int32} {a_m_now : Nat → Int32} {a_m_history : Nat → Int32} (h : qn_Inv (f_x_present_operation_size, f_x_present_operation_badColumn, a_x_present_operation_products_cells, a_x_present_operation_quotients_cells, f_x_present_braid_strands, f_x_present_braid_count, a_x_present_braid_crossings, f_x_present_weights_modulus, a_x_present_weights_values_cells) f_x_history_count P_x_history_past a_m_now a_m_history f_m_edits) (x1 : Int32) : wp_X9_loadTrivial (fun (r : Int32) (f_x_present_operation_size' : Int32) (f_x_present_operation_badColumn' : Int32) (a_x_present_operation_products_cells' : Nat → Int32) (a_x_present_operation_quotients_cells' : Nat → Int32) (a_x_present_weights_values_cells' : Nat → Int32) (f_x_history_count' : Int32) (pa_x_history_past' : Nat → Nat → Nat) (P_x_history_past' : Nat → qn_St) => wp_X10_loadTrivial (fun (r2 : Int32) (f_m_edits' : Int32) (a_m_now' : Nat → Int32) (a_m_history' : Nat → Int32) => r = r2 ∧ qn_Inv (f_x_present_operation_size', f_x_present_operation_badColumn', a_x_present_operation_products_cells', a_x_present_operation_quotients_cells', f_x_present_braid_strands, f_x_present_braid_count, a_x_present_braid_crossings, f_x_present_weights_modulus, a_x_present_weights_values_cells') (f_x_history_count') (P_x_history_past') (a_m_now') (a_m_history') (f_m_edits')) f_m_edits a_m_now a_m_history x1) f_x_present_operation_size f_x_present_operation_badColumn a_x_present_operation_products_cells a_x_present_operation_quotients_cells f_x_present_braid_strands f_x_present_braid_count a_x_present_braid_crossings f_x_present_weights_modulus a_x_present_weights_values_cells f_x_history_count pa_x_history_past P_x_history_past x1 := by
  have h0 := h
  obtain ⟨c, hc, rfl, rfl, ⟨n, s, k, m, t, w, g, hG, hX, hM⟩, hH⟩ := h
  obtain ⟨rfl, hb, ht, hq, rfl, rfl, hg, rfl, hw⟩ := q_Xd hX
  obtain ⟨g1, g2, g3, g4, g5, g6, g7, g8, g9, g10⟩ := id hG
  obtain ⟨m1, m2, m3, m4, m5, m6, m7⟩ := id hM
  rcases q_tri x1 (a := 1) (b := 6) (by omega) (by omega) with hx | hx | ⟨z, h1, h2, rfl⟩
  · unfold wp_X9_loadTrivial wp_X9_loadLinear
    exact s_sizeF (Or.inl hx) ⟨fun z => absurd rfl z, fun _ => s_inF (Or.inl hx) ⟨fun z => absurd rfl z, fun _ => ⟨rfl, h0⟩⟩⟩
  · unfold wp_X9_loadTrivial wp_X9_loadLinear
    exact s_sizeF (Or.inr hx) ⟨fun z => absurd rfl z, fun _ => s_inF (Or.inr hx) ⟨fun z => absurd rfl z, fun _ => ⟨rfl, h0⟩⟩⟩
  · exact s_loadLin (T := fun x _ => x) hc h1 h2 (fun x y hx hy => q_fT z (by omega) (by omega) x hx y hy) (fun x y hx hy => hx) (fun b p' q' r' pa' P' hb hp hq hr hP => s_mTriv hc h1 h2 (fun N' H' hE hL => ⟨rfl, q_loaded hc h1 h2 (fun x y hx hy => hx) hG hX hM hH hP hE hL hb hp hq hr hg⟩))

theorem st_loadDihedral {f_x_present_operation_size : Int32} {f_x_present_operation_badColumn : Int32} {a_x_present_operation_products_cells : Nat → Int32} {a_x_present_operation_quotients_cells : Nat → Int32} {f_x_present_braid_strands : Int32} {f_x_present_braid_count : Int32} {a_x_present_braid_crossings : Nat → Int32} {f_x_present_weights_modulus : Int32} {a_x_present_weights_values_cells : Nat → Int32} {f_x_history_count : Int32} {pa_x_history_past : Nat → Nat → Nat} {P_x_history_past : Nat → qn_St} {f_m_edits : Int32} {a_m_now : Nat → Int32} {a_m_history : Nat → Int32} (h : qn_Inv (f_x_present_operation_size, f_x_present_operation_badColumn, a_x_present_operation_products_cells, a_x_present_operation_quotients_cells, f_x_present_braid_strands, f_x_present_braid_count, a_x_present_braid_crossings, f_x_present_weights_modulus, a_x_present_weights_values_cells) f_x_history_count P_x_history_past a_m_now a_m_history f_m_edits) (x1 : Int32) : wp_X9_loadDihedral (fun (r : Int32) (f_x_present_operation_size' : Int32) (f_x_present_operation_badColumn' : Int32) (a_x_present_operation_products_cells' : Nat → Int32) (a_x_present_operation_quotients_cells' : Nat → Int32) (a_x_present_weights_values_cells' : Nat → Int32) (f_x_history_count' : Int32) (pa_x_history_past' : Nat → Nat → Nat) (P_x_history_past' : Nat → qn_St) => wp_X10_loadDihedral (fun (r2 : Int32) (f_m_edits' : Int32) (a_m_now' : Nat → Int32) (a_m_history' : Nat → Int32) => r = r2 ∧ qn_Inv (f_x_present_operation_size', f_x_present_operation_badColumn', a_x_present_operation_products_cells', a_x_present_operation_quotients_cells', f_x_present_braid_strands, f_x_present_braid_count, a_x_present_braid_crossings, f_x_present_weights_modulus, a_x_present_weights_values_cells') (f_x_history_count') (P_x_history_past') (a_m_now') (a_m_history') (f_m_edits')) f_m_edits a_m_now a_m_history x1) f_x_present_operation_size f_x_present_operation_badColumn a_x_present_operation_products_cells a_x_present_operation_quotients_cells f_x_present_braid_strands f_x_present_braid_count a_x_present_braid_crossings f_x_present_weights_modulus a_x_present_weights_values_cells f_x_history_count pa_x_history_past P_x_history_past x1 := by
  have h0 := h
  obtain ⟨c, hc, rfl, rfl, ⟨n, s, k, m, t, w, g, hG, hX, hM⟩, hH⟩ := h
  obtain ⟨rfl, hb, ht, hq, rfl, rfl, hg, rfl, hw⟩ := q_Xd hX
  obtain ⟨g1, g2, g3, g4, g5, g6, g7, g8, g9, g10⟩ := id hG
  obtain ⟨m1, m2, m3, m4, m5, m6, m7⟩ := id hM
  rcases q_tri x1 (a := 1) (b := 6) (by omega) (by omega) with hx | hx | ⟨z, h1, h2, rfl⟩
  · unfold wp_X9_loadDihedral wp_X9_loadLinear
    exact s_sizeF (Or.inl hx) ⟨fun z => absurd rfl z, fun _ => s_inF (Or.inl hx) ⟨fun z => absurd rfl z, fun _ => ⟨rfl, h0⟩⟩⟩
  · unfold wp_X9_loadDihedral wp_X9_loadLinear
    exact s_sizeF (Or.inr hx) ⟨fun z => absurd rfl z, fun _ => s_inF (Or.inr hx) ⟨fun z => absurd rfl z, fun _ => ⟨rfl, h0⟩⟩⟩
  · have hT : ∀ x y, x < z → y < z → qn_Dih z x y < z := fun x y hx hy => Nat.mod_lt _ (by omega)
    exact s_loadLin (T := qn_Dih z) hc h1 h2 (fun x y hx hy => q_fD z (by omega) (by omega) x hx y hy) hT (fun b p' q' r' pa' P' hb hp hq hr hP => s_inT (b := 1) (c := 6) h1 h2 (by decide) ⟨fun _ => s_mAlex hc h1 h2 (fun x y hx hy => q_rD z (by omega) (by omega) x hx y hy) (fun N' H' hE hL => ⟨rfl, q_loaded hc h1 h2 hT hG hX hM hH hP hE hL hb hp hq hr hg⟩), fun z => absurd z (by decide)⟩)

theorem st_loadCyclicRack {f_x_present_operation_size : Int32} {f_x_present_operation_badColumn : Int32} {a_x_present_operation_products_cells : Nat → Int32} {a_x_present_operation_quotients_cells : Nat → Int32} {f_x_present_braid_strands : Int32} {f_x_present_braid_count : Int32} {a_x_present_braid_crossings : Nat → Int32} {f_x_present_weights_modulus : Int32} {a_x_present_weights_values_cells : Nat → Int32} {f_x_history_count : Int32} {pa_x_history_past : Nat → Nat → Nat} {P_x_history_past : Nat → qn_St} {f_m_edits : Int32} {a_m_now : Nat → Int32} {a_m_history : Nat → Int32} (h : qn_Inv (f_x_present_operation_size, f_x_present_operation_badColumn, a_x_present_operation_products_cells, a_x_present_operation_quotients_cells, f_x_present_braid_strands, f_x_present_braid_count, a_x_present_braid_crossings, f_x_present_weights_modulus, a_x_present_weights_values_cells) f_x_history_count P_x_history_past a_m_now a_m_history f_m_edits) (x1 : Int32) : wp_X9_loadCyclicRack (fun (r : Int32) (f_x_present_operation_size' : Int32) (f_x_present_operation_badColumn' : Int32) (a_x_present_operation_products_cells' : Nat → Int32) (a_x_present_operation_quotients_cells' : Nat → Int32) (a_x_present_weights_values_cells' : Nat → Int32) (f_x_history_count' : Int32) (pa_x_history_past' : Nat → Nat → Nat) (P_x_history_past' : Nat → qn_St) => wp_X10_loadCyclicRack (fun (r2 : Int32) (f_m_edits' : Int32) (a_m_now' : Nat → Int32) (a_m_history' : Nat → Int32) => r = r2 ∧ qn_Inv (f_x_present_operation_size', f_x_present_operation_badColumn', a_x_present_operation_products_cells', a_x_present_operation_quotients_cells', f_x_present_braid_strands, f_x_present_braid_count, a_x_present_braid_crossings, f_x_present_weights_modulus, a_x_present_weights_values_cells') (f_x_history_count') (P_x_history_past') (a_m_now') (a_m_history') (f_m_edits')) f_m_edits a_m_now a_m_history x1) f_x_present_operation_size f_x_present_operation_badColumn a_x_present_operation_products_cells a_x_present_operation_quotients_cells f_x_present_braid_strands f_x_present_braid_count a_x_present_braid_crossings f_x_present_weights_modulus a_x_present_weights_values_cells f_x_history_count pa_x_history_past P_x_history_past x1 := by
  have h0 := h
  obtain ⟨c, hc, rfl, rfl, ⟨n, s, k, m, t, w, g, hG, hX, hM⟩, hH⟩ := h
  obtain ⟨rfl, hb, ht, hq, rfl, rfl, hg, rfl, hw⟩ := q_Xd hX
  obtain ⟨g1, g2, g3, g4, g5, g6, g7, g8, g9, g10⟩ := id hG
  obtain ⟨m1, m2, m3, m4, m5, m6, m7⟩ := id hM
  rcases q_tri x1 (a := 1) (b := 6) (by omega) (by omega) with hx | hx | ⟨z, h1, h2, rfl⟩
  · unfold wp_X9_loadCyclicRack wp_X9_loadLinear
    exact s_sizeF (Or.inl hx) ⟨fun z => absurd rfl z, fun _ => s_inF (Or.inl hx) ⟨fun z => absurd rfl z, fun _ => ⟨rfl, h0⟩⟩⟩
  · unfold wp_X9_loadCyclicRack wp_X9_loadLinear
    exact s_sizeF (Or.inr hx) ⟨fun z => absurd rfl z, fun _ => s_inF (Or.inr hx) ⟨fun z => absurd rfl z, fun _ => ⟨rfl, h0⟩⟩⟩
  · have hT : ∀ x y, x < z → y < z → qn_Cyc z x y < z := fun x y hx hy => Nat.mod_lt _ (by omega)
    exact s_loadLin (T := qn_Cyc z) hc h1 h2 (fun x y hx hy => q_fC z (by omega) (by omega) x hx y hy) hT (fun b p' q' r' pa' P' hb hp hq hr hP => s_mCyc hc h1 h2 (fun N' H' hE hL => ⟨rfl, q_loaded hc h1 h2 hT hG hX hM hH hP hE hL hb hp hq hr hg⟩))

theorem st_loadAlexander {f_x_present_operation_size : Int32} {f_x_present_operation_badColumn : Int32} {a_x_present_operation_products_cells : Nat → Int32} {a_x_present_operation_quotients_cells : Nat → Int32} {f_x_present_braid_strands : Int32} {f_x_present_braid_count : Int32} {a_x_present_braid_crossings : Nat → Int32} {f_x_present_weights_modulus : Int32} {a_x_present_weights_values_cells : Nat → Int32} {f_x_history_count : Int32} {pa_x_history_past : Nat → Nat → Nat} {P_x_history_past : Nat → qn_St} {f_m_edits : Int32} {a_m_now : Nat → Int32} {a_m_history : Nat → Int32} (h : qn_Inv (f_x_present_operation_size, f_x_present_operation_badColumn, a_x_present_operation_products_cells, a_x_present_operation_quotients_cells, f_x_present_braid_strands, f_x_present_braid_count, a_x_present_braid_crossings, f_x_present_weights_modulus, a_x_present_weights_values_cells) f_x_history_count P_x_history_past a_m_now a_m_history f_m_edits) (x1 x2 : Int32) : wp_X9_loadAlexander (fun (r : Int32) (f_x_present_operation_size' : Int32) (f_x_present_operation_badColumn' : Int32) (a_x_present_operation_products_cells' : Nat → Int32) (a_x_present_operation_quotients_cells' : Nat → Int32) (a_x_present_weights_values_cells' : Nat → Int32) (f_x_history_count' : Int32) (pa_x_history_past' : Nat → Nat → Nat) (P_x_history_past' : Nat → qn_St) => wp_X10_loadAlexander (fun (r2 : Int32) (f_m_edits' : Int32) (a_m_now' : Nat → Int32) (a_m_history' : Nat → Int32) => r = r2 ∧ qn_Inv (f_x_present_operation_size', f_x_present_operation_badColumn', a_x_present_operation_products_cells', a_x_present_operation_quotients_cells', f_x_present_braid_strands, f_x_present_braid_count, a_x_present_braid_crossings, f_x_present_weights_modulus, a_x_present_weights_values_cells') (f_x_history_count') (P_x_history_past') (a_m_now') (a_m_history') (f_m_edits')) f_m_edits a_m_now a_m_history x1 x2) f_x_present_operation_size f_x_present_operation_badColumn a_x_present_operation_products_cells a_x_present_operation_quotients_cells f_x_present_braid_strands f_x_present_braid_count a_x_present_braid_crossings f_x_present_weights_modulus a_x_present_weights_values_cells f_x_history_count pa_x_history_past P_x_history_past x1 x2 := by
  have h0 := h
  obtain ⟨c, hc, rfl, rfl, ⟨n, s, k, m, t, w, g, hG, hX, hM⟩, hH⟩ := h
  obtain ⟨rfl, hb, ht, hq, rfl, rfl, hg, rfl, hw⟩ := q_Xd hX
  obtain ⟨g1, g2, g3, g4, g5, g6, g7, g8, g9, g10⟩ := id hG
  obtain ⟨m1, m2, m3, m4, m5, m6, m7⟩ := id hM
  rcases q_tri x1 (a := 1) (b := 6) (by omega) (by omega) with hx | hx | ⟨z, h1, h2, rfl⟩
  · exact s_sizeF (Or.inl hx) ⟨fun _ => s_inF (Or.inl hx) ⟨fun _ => ⟨rfl, h0⟩, fun z => absurd rfl z⟩, fun z => absurd rfl z⟩
  · exact s_sizeF (Or.inr hx) ⟨fun _ => s_inF (Or.inr hx) ⟨fun _ => ⟨rfl, h0⟩, fun z => absurd rfl z⟩, fun z => absurd rfl z⟩
  · have hin : ∀ {post : Int32 → Prop}, post 1 → wp_X10_in post (nI z) 1 6 := fun hp => s_inT (b := 1) (c := 6) h1 h2 (by decide) hp
    rcases q_el x2 (n := z) (by omega) with ha | ⟨a, ha, rfl⟩
    · have hM2 : wp_X10_loadAlexander (fun r2 e' N' H' => (-1) = r2 ∧ qn_Inv (nI n, f_x_present_operation_badColumn, a_x_present_operation_products_cells, a_x_present_operation_quotients_cells, nI s, nI k, a_x_present_braid_crossings, nI m, a_x_present_weights_values_cells) (nI c) P_x_history_past N' H' e') (nI c) a_m_now a_m_history (nI z) x2 := by
        refine hin ⟨fun z => absurd z (by decide), fun _ => ?_⟩
        rw [q_pred h1]
        refine s_inF ?_ ⟨fun _ => ⟨rfl, h0⟩, fun z => absurd rfl z⟩
        rcases ha with q | q
        · exact Or.inl q
        · exact Or.inr (q_lt_of_le h1 (by omega) q)
      refine s_sizeT h1 h2 ⟨fun z => absurd z (by decide), fun _ => ?_⟩
      rcases ha with q | q
      · exact ⟨fun _ => hM2, fun z => absurd q z⟩
      · exact ⟨fun _ => hM2, fun _ => ⟨fun _ => hM2, fun z => absurd q z⟩⟩
    · have hT : ∀ x y, x < z → y < z → qn_Alx z a x y < z := fun x y hx hy => Nat.mod_lt _ (by omega)
      have hg1 := q_hc z (by omega) (by omega) a ha
      have hin2 : ∀ {post : Int32 → Prop}, post 1 → wp_X10_in post (nI a) 0 (nI z - 1) := fun hp => by
        rw [q_pred h1]
        exact s_inT (b := 0) (by omega) (by omega) (by omega) hp
      have hgl : Nat.gcd a z ≤ 6 := Nat.le_trans (Nat.gcd_le_right a (by omega)) h2
      refine s_sizeT h1 h2 ⟨fun z => absurd z (by decide), fun _ => pk_lt a 0 (fun q => absurd q (by omega)) (fun _ => pk_le z a (fun q => absurd q (by omega)) (fun _ => s_common h1 h2 ha (fun q => ?_) (fun q => ?_)))⟩
      · refine ⟨fun z => absurd z (by decide), fun _ => hin ⟨fun z => absurd z (by decide), fun _ => hin2 ⟨fun z => absurd z (by decide), fun _ => s_gcd a z (by omega) (by omega) ?_⟩⟩⟩
        exact pk_le (Nat.gcd a z) 1 (fun q2 => absurd (hg1.mp q) (by omega)) (fun _ => ⟨rfl, h0⟩)
      · refine ⟨fun _ => s_loadLin (T := qn_Alx z a) hc h1 h2 (fun x y hx hy => q_fA z (by omega) (by omega) a ha x hx y hy) hT (fun b p' q' r' pa' P' hb hp hq hr hP => hin ⟨fun z => absurd z (by decide), fun _ => hin2 ⟨fun z => absurd z (by decide), fun _ => s_gcd a z (by omega) (by omega) ?_⟩⟩), fun z => absurd rfl z⟩
        refine pk_le (Nat.gcd a z) 1 (fun _ => s_mAlex hc h1 h2 (fun x y hx hy => q_rA z (by omega) (by omega) a ha x hx y hy) (fun N' H' hE hL => ⟨rfl, q_loaded hc h1 h2 hT hG hX hM hH hP hE hL hb hp hq hr hg⟩)) (fun q2 => absurd (hg1.mpr q2) q)

theorem st_distributivityViolation {f_x_present_operation_size : Int32} {f_x_present_operation_badColumn : Int32} {a_x_present_operation_products_cells : Nat → Int32} {a_x_present_operation_quotients_cells : Nat → Int32} {f_x_present_braid_strands : Int32} {f_x_present_braid_count : Int32} {a_x_present_braid_crossings : Nat → Int32} {f_x_present_weights_modulus : Int32} {a_x_present_weights_values_cells : Nat → Int32} {f_x_history_count : Int32} {P_x_history_past : Nat → qn_St} {f_m_edits : Int32} {a_m_now : Nat → Int32} {a_m_history : Nat → Int32} (h : qn_Inv (f_x_present_operation_size, f_x_present_operation_badColumn, a_x_present_operation_products_cells, a_x_present_operation_quotients_cells, f_x_present_braid_strands, f_x_present_braid_count, a_x_present_braid_crossings, f_x_present_weights_modulus, a_x_present_weights_values_cells) f_x_history_count P_x_history_past a_m_now a_m_history f_m_edits) : wp_X9_distributivityViolation (fun (r : Int32) => wp_X10_distributivityViolation (fun (r2 : Int32) => r = r2 ∧ qn_Inv (f_x_present_operation_size, f_x_present_operation_badColumn, a_x_present_operation_products_cells, a_x_present_operation_quotients_cells, f_x_present_braid_strands, f_x_present_braid_count, a_x_present_braid_crossings, f_x_present_weights_modulus, a_x_present_weights_values_cells) f_x_history_count P_x_history_past a_m_now a_m_history f_m_edits) a_m_now) f_x_present_operation_size a_x_present_operation_products_cells := by
  have h0 := h
  obtain ⟨c, hc, rfl, rfl, ⟨n, s, k, m, t, w, g, hG, hX, hM⟩, hH⟩ := h
  obtain ⟨rfl, hb, ht, hq, rfl, rfl, hg, rfl, hw⟩ := q_Xd hX
  obtain ⟨g1, g2, g3, g4, g5, g6, g7, g8, g9, g10⟩ := id hG
  obtain ⟨m1, m2, m3, m4, m5, m6, m7⟩ := id hM
  exact s_undist g2 g8 ht (fun r hr => s_viol0 g2 g8 m1 m2 (fun r2 hr2 => ⟨q_tv1 hr hr2, h0⟩))

theorem st_cocycleViolation {f_x_present_operation_size : Int32} {f_x_present_operation_badColumn : Int32} {a_x_present_operation_products_cells : Nat → Int32} {a_x_present_operation_quotients_cells : Nat → Int32} {f_x_present_braid_strands : Int32} {f_x_present_braid_count : Int32} {a_x_present_braid_crossings : Nat → Int32} {f_x_present_weights_modulus : Int32} {a_x_present_weights_values_cells : Nat → Int32} {f_x_history_count : Int32} {P_x_history_past : Nat → qn_St} {f_m_edits : Int32} {a_m_now : Nat → Int32} {a_m_history : Nat → Int32} (h : qn_Inv (f_x_present_operation_size, f_x_present_operation_badColumn, a_x_present_operation_products_cells, a_x_present_operation_quotients_cells, f_x_present_braid_strands, f_x_present_braid_count, a_x_present_braid_crossings, f_x_present_weights_modulus, a_x_present_weights_values_cells) f_x_history_count P_x_history_past a_m_now a_m_history f_m_edits) : wp_X9_cocycleViolation (fun (r : Int32) => wp_X10_cocycleViolation (fun (r2 : Int32) => r = r2 ∧ qn_Inv (f_x_present_operation_size, f_x_present_operation_badColumn, a_x_present_operation_products_cells, a_x_present_operation_quotients_cells, f_x_present_braid_strands, f_x_present_braid_count, a_x_present_braid_crossings, f_x_present_weights_modulus, a_x_present_weights_values_cells) f_x_history_count P_x_history_past a_m_now a_m_history f_m_edits) a_m_now) f_x_present_operation_size a_x_present_operation_products_cells f_x_present_weights_modulus a_x_present_weights_values_cells := by
  have h0 := h
  obtain ⟨c, hc, rfl, rfl, ⟨n, s, k, m, t, w, g, hG, hX, hM⟩, hH⟩ := h
  obtain ⟨rfl, hb, ht, hq, rfl, rfl, hg, rfl, hw⟩ := q_Xd hX
  obtain ⟨g1, g2, g3, g4, g5, g6, g7, g8, g9, g10⟩ := id hG
  obtain ⟨m1, m2, m3, m4, m5, m6, m7⟩ := id hM
  exact s_unclosed g2 g6 g7 g8 g9 ht hw (fun r hr => s_viol1 g2 g6 g7 g8 g9 m1 m6 m2 m7 (fun r2 hr2 => ⟨q_tv1 hr hr2, h0⟩))

theorem st_idempotencyViolation {f_x_present_operation_size : Int32} {f_x_present_operation_badColumn : Int32} {a_x_present_operation_products_cells : Nat → Int32} {a_x_present_operation_quotients_cells : Nat → Int32} {f_x_present_braid_strands : Int32} {f_x_present_braid_count : Int32} {a_x_present_braid_crossings : Nat → Int32} {f_x_present_weights_modulus : Int32} {a_x_present_weights_values_cells : Nat → Int32} {f_x_history_count : Int32} {P_x_history_past : Nat → qn_St} {f_m_edits : Int32} {a_m_now : Nat → Int32} {a_m_history : Nat → Int32} (h : qn_Inv (f_x_present_operation_size, f_x_present_operation_badColumn, a_x_present_operation_products_cells, a_x_present_operation_quotients_cells, f_x_present_braid_strands, f_x_present_braid_count, a_x_present_braid_crossings, f_x_present_weights_modulus, a_x_present_weights_values_cells) f_x_history_count P_x_history_past a_m_now a_m_history f_m_edits) : wp_X9_idempotencyViolation (fun (r : Int32) => wp_X10_idempotencyViolation (fun (r2 : Int32) => r = r2 ∧ qn_Inv (f_x_present_operation_size, f_x_present_operation_badColumn, a_x_present_operation_products_cells, a_x_present_operation_quotients_cells, f_x_present_braid_strands, f_x_present_braid_count, a_x_present_braid_crossings, f_x_present_weights_modulus, a_x_present_weights_values_cells) f_x_history_count P_x_history_past a_m_now a_m_history f_m_edits) a_m_now) f_x_present_operation_size a_x_present_operation_products_cells := by
  have h0 := h
  obtain ⟨c, hc, rfl, rfl, ⟨n, s, k, m, t, w, g, hG, hX, hM⟩, hH⟩ := h
  obtain ⟨rfl, hb, ht, hq, rfl, rfl, hg, rfl, hw⟩ := q_Xd hX
  obtain ⟨g1, g2, g3, g4, g5, g6, g7, g8, g9, g10⟩ := id hG
  obtain ⟨m1, m2, m3, m4, m5, m6, m7⟩ := id hM
  exact s_unidem g2 g8 ht (s_mIdem g2 g8 m1 m2 ⟨rfl, h0⟩)

theorem st_kind {f_x_present_operation_size : Int32} {f_x_present_operation_badColumn : Int32} {a_x_present_operation_products_cells : Nat → Int32} {a_x_present_operation_quotients_cells : Nat → Int32} {f_x_present_braid_strands : Int32} {f_x_present_braid_count : Int32} {a_x_present_braid_crossings : Nat → Int32} {f_x_present_weights_modulus : Int32} {a_x_present_weights_values_cells : Nat → Int32} {f_x_history_count : Int32} {P_x_history_past : Nat → qn_St} {f_m_edits : Int32} {a_m_now : Nat → Int32} {a_m_history : Nat → Int32} {a_m_over : Nat → Int32} (h : qn_Inv (f_x_present_operation_size, f_x_present_operation_badColumn, a_x_present_operation_products_cells, a_x_present_operation_quotients_cells, f_x_present_braid_strands, f_x_present_braid_count, a_x_present_braid_crossings, f_x_present_weights_modulus, a_x_present_weights_values_cells) f_x_history_count P_x_history_past a_m_now a_m_history f_m_edits) : wp_X9_kind (fun (r : Int32) => wp_X10_kind (fun (r2 : Int32) (a_m_over' : Nat → Int32) => r = r2 ∧ qn_Inv (f_x_present_operation_size, f_x_present_operation_badColumn, a_x_present_operation_products_cells, a_x_present_operation_quotients_cells, f_x_present_braid_strands, f_x_present_braid_count, a_x_present_braid_crossings, f_x_present_weights_modulus, a_x_present_weights_values_cells) f_x_history_count P_x_history_past a_m_now a_m_history f_m_edits) a_m_now a_m_over) f_x_present_operation_size f_x_present_operation_badColumn a_x_present_operation_products_cells := by
  have h0 := h
  obtain ⟨c, hc, rfl, rfl, ⟨n, s, k, m, t, w, g, hG, hX, hM⟩, hH⟩ := h
  obtain ⟨rfl, hb, ht, hq, rfl, rfl, hg, rfl, hw⟩ := q_Xd hX
  obtain ⟨g1, g2, g3, g4, g5, g6, g7, g8, g9, g10⟩ := id hG
  obtain ⟨m1, m2, m3, m4, m5, m6, m7⟩ := id hM
  exact s_xKind g2 g8 hb ht (fun r hr => s_mKind g2 g8 m1 m2 (fun r2 o hr2 => ⟨q_kn1 hr hr2, h0⟩))

theorem st_orbit {f_x_present_operation_size : Int32} {f_x_present_operation_badColumn : Int32} {a_x_present_operation_products_cells : Nat → Int32} {a_x_present_operation_quotients_cells : Nat → Int32} {f_x_present_braid_strands : Int32} {f_x_present_braid_count : Int32} {a_x_present_braid_crossings : Nat → Int32} {f_x_present_weights_modulus : Int32} {a_x_present_weights_values_cells : Nat → Int32} {f_x_history_count : Int32} {P_x_history_past : Nat → qn_St} {f_m_edits : Int32} {a_m_now : Nat → Int32} {a_m_history : Nat → Int32} {a_m_over : Nat → Int32} (h : qn_Inv (f_x_present_operation_size, f_x_present_operation_badColumn, a_x_present_operation_products_cells, a_x_present_operation_quotients_cells, f_x_present_braid_strands, f_x_present_braid_count, a_x_present_braid_crossings, f_x_present_weights_modulus, a_x_present_weights_values_cells) f_x_history_count P_x_history_past a_m_now a_m_history f_m_edits) (x1 : Int32) : wp_X9_orbit (fun (r : Int32) => wp_X10_orbit (fun (r2 : Int32) (a_m_over' : Nat → Int32) => r = r2 ∧ qn_Inv (f_x_present_operation_size, f_x_present_operation_badColumn, a_x_present_operation_products_cells, a_x_present_operation_quotients_cells, f_x_present_braid_strands, f_x_present_braid_count, a_x_present_braid_crossings, f_x_present_weights_modulus, a_x_present_weights_values_cells) f_x_history_count P_x_history_past a_m_now a_m_history f_m_edits) a_m_now a_m_over x1) f_x_present_operation_size f_x_present_operation_badColumn a_x_present_operation_products_cells a_x_present_operation_quotients_cells x1 := by
  have h0 := h
  obtain ⟨c, hc, rfl, rfl, ⟨n, s, k, m, t, w, g, hG, hX, hM⟩, hH⟩ := h
  obtain ⟨rfl, hb, ht, hq, rfl, rfl, hg, rfl, hw⟩ := q_Xd hX
  obtain ⟨g1, g2, g3, g4, g5, g6, g7, g8, g9, g10⟩ := id hG
  obtain ⟨m1, m2, m3, m4, m5, m6, m7⟩ := id hM
  rcases q_el x1 (n := n) (by omega) with hx | ⟨x, hx, rfl⟩
  · exact s_hasF hx ⟨fun z => absurd rfl z, fun _ => s_isElF m1 g1 g2 hx ⟨fun z => absurd rfl z, fun _ => ⟨rfl, h0⟩⟩⟩
  · rcases q_badI g2 hb with ⟨rfl, hi⟩ | ⟨hne, hni⟩
    · have hk : qn_tk true n t := ⟨g2, g8, fun _ => hi⟩
      refine s_hasT g2 hx ⟨fun _ => s_reach hk ht hq ⟨fun _ => rfl, fun _ => rfl⟩ hx (fun k ho => s_isElT m1 g2 hx ⟨fun _ => s_column g2 g8 m1 m2 (fun b o hb' ho' => ?_), fun z => absurd z (by decide)⟩), fun z => absurd z (by decide)⟩
      obtain rfl := q_bad1 g2 hb' hb
      exact ⟨fun z => absurd rfl z, fun _ => s_mOrb hk m1 m2 (fun _ => ho' hi) ⟨fun z => absurd z (by decide), fun z => absurd z (by decide)⟩ hx ho ⟨rfl, h0⟩⟩
    · have hk : qn_tk false n t := ⟨g2, g8, fun z => absurd z (by decide)⟩
      refine s_hasT g2 hx ⟨fun _ => s_reach hk ht hq ⟨fun z => absurd z (by decide), fun z => absurd z hne⟩ hx (fun k ho => s_isElT m1 g2 hx ⟨fun _ => s_column g2 g8 m1 m2 (fun b o hb' ho' => ?_), fun z => absurd z (by decide)⟩), fun z => absurd z (by decide)⟩
      obtain rfl := q_bad1 g2 hb' hb
      exact ⟨fun _ => s_mOrb hk m1 m2 (fun z => absurd z (by decide)) ⟨fun _ => rfl, fun _ => rfl⟩ hx ho ⟨rfl, h0⟩, fun z => absurd z hne⟩

theorem st_loadDual {f_x_present_operation_size : Int32} {f_x_present_operation_badColumn : Int32} {a_x_present_operation_products_cells : Nat → Int32} {a_x_present_operation_quotients_cells : Nat → Int32} {f_x_present_braid_strands : Int32} {f_x_present_braid_count : Int32} {a_x_present_braid_crossings : Nat → Int32} {f_x_present_weights_modulus : Int32} {a_x_present_weights_values_cells : Nat → Int32} {f_x_history_count : Int32} {pa_x_history_past : Nat → Nat → Nat} {P_x_history_past : Nat → qn_St} {f_m_edits : Int32} {a_m_now : Nat → Int32} {a_m_history : Nat → Int32} {a_m_over : Nat → Int32} (h : qn_Inv (f_x_present_operation_size, f_x_present_operation_badColumn, a_x_present_operation_products_cells, a_x_present_operation_quotients_cells, f_x_present_braid_strands, f_x_present_braid_count, a_x_present_braid_crossings, f_x_present_weights_modulus, a_x_present_weights_values_cells) f_x_history_count P_x_history_past a_m_now a_m_history f_m_edits) : wp_X9_loadDual (fun (r : Int32) (f_x_present_operation_badColumn' : Int32) (a_x_present_operation_products_cells' : Nat → Int32) (a_x_present_operation_quotients_cells' : Nat → Int32) (a_x_present_weights_values_cells' : Nat → Int32) (f_x_history_count' : Int32) (pa_x_history_past' : Nat → Nat → Nat) (P_x_history_past' : Nat → qn_St) => wp_X10_loadDual (fun (r2 : Int32) (f_m_edits' : Int32) (a_m_now' : Nat → Int32) (a_m_history' : Nat → Int32) (a_m_over' : Nat → Int32) => r = r2 ∧ qn_Inv (f_x_present_operation_size, f_x_present_operation_badColumn', a_x_present_operation_products_cells', a_x_present_operation_quotients_cells', f_x_present_braid_strands, f_x_present_braid_count, a_x_present_braid_crossings, f_x_present_weights_modulus, a_x_present_weights_values_cells') (f_x_history_count') (P_x_history_past') (a_m_now') (a_m_history') (f_m_edits')) f_m_edits a_m_now a_m_history a_m_over) f_x_present_operation_size f_x_present_operation_badColumn a_x_present_operation_products_cells a_x_present_operation_quotients_cells f_x_present_braid_strands f_x_present_braid_count a_x_present_braid_crossings f_x_present_weights_modulus a_x_present_weights_values_cells f_x_history_count pa_x_history_past P_x_history_past := by
  have h0 := h
  obtain ⟨c, hc, rfl, rfl, ⟨n, s, k, m, t, w, g, hG, hX, hM⟩, hH⟩ := h
  obtain ⟨rfl, hb, ht, hq, rfl, rfl, hg, rfl, hw⟩ := q_Xd hX
  obtain ⟨g1, g2, g3, g4, g5, g6, g7, g8, g9, g10⟩ := id hG
  obtain ⟨m1, m2, m3, m4, m5, m6, m7⟩ := id hM
  rcases q_badI g2 hb with ⟨rfl, hi⟩ | ⟨hne, hni⟩
  · refine s_invT ⟨fun _ => s_begin hc (fun r' pa' P' hr hP => s_dual g1 g2 g8 hi hq (fun b p' q' hb' hp' hq' => s_mDual hc g1 g2 g8 m1 m2 hi (fun N' H' o hE hL => ⟨rfl, ?_⟩))), fun z => absurd z (by decide)⟩
    exact q_loaded hc g1 g2 (fun x y hx hy => (q_dv g8 (hi y hy) hx hy).1) hG hX hM hH hP hE hL hb' hp' hq' hr hg
  · refine s_invF hne ⟨fun z => absurd rfl z, fun _ => s_column g2 g8 m1 m2 (fun b o hb' ho => ?_)⟩
    obtain rfl := q_bad1 g2 hb' hb
    exact ⟨fun z => absurd z hne, fun _ => ⟨rfl, h0⟩⟩

theorem st_loadConjugation {f_x_present_operation_size : Int32} {f_x_present_operation_badColumn : Int32} {a_x_present_operation_products_cells : Nat → Int32} {a_x_present_operation_quotients_cells : Nat → Int32} {f_x_present_braid_strands : Int32} {f_x_present_braid_count : Int32} {a_x_present_braid_crossings : Nat → Int32} {f_x_present_weights_modulus : Int32} {a_x_present_weights_values_cells : Nat → Int32} {f_x_history_count : Int32} {pa_x_history_past : Nat → Nat → Nat} {P_x_history_past : Nat → qn_St} {f_m_edits : Int32} {a_m_now : Nat → Int32} {a_m_history : Nat → Int32} {a_m_order : Nat → Int32} {a_m_row : Nat → Int32} {a_m_three : Nat → Int32} (h : qn_Inv (f_x_present_operation_size, f_x_present_operation_badColumn, a_x_present_operation_products_cells, a_x_present_operation_quotients_cells, f_x_present_braid_strands, f_x_present_braid_count, a_x_present_braid_crossings, f_x_present_weights_modulus, a_x_present_weights_values_cells) f_x_history_count P_x_history_past a_m_now a_m_history f_m_edits) : wp_X9_loadConjugation (fun (r : Int32) (f_x_present_operation_size' : Int32) (f_x_present_operation_badColumn' : Int32) (a_x_present_operation_products_cells' : Nat → Int32) (a_x_present_operation_quotients_cells' : Nat → Int32) (a_x_present_weights_values_cells' : Nat → Int32) (f_x_history_count' : Int32) (pa_x_history_past' : Nat → Nat → Nat) (P_x_history_past' : Nat → qn_St) => wp_X10_loadConjugation (fun (r2 : Int32) (f_m_edits' : Int32) (a_m_now' : Nat → Int32) (a_m_history' : Nat → Int32) (a_m_order' : Nat → Int32) (a_m_row' : Nat → Int32) (a_m_three' : Nat → Int32) => r = r2 ∧ qn_Inv (f_x_present_operation_size', f_x_present_operation_badColumn', a_x_present_operation_products_cells', a_x_present_operation_quotients_cells', f_x_present_braid_strands, f_x_present_braid_count, a_x_present_braid_crossings, f_x_present_weights_modulus, a_x_present_weights_values_cells') (f_x_history_count') (P_x_history_past') (a_m_now') (a_m_history') (f_m_edits')) f_m_edits a_m_now a_m_history a_m_order a_m_row a_m_three) f_x_present_operation_size f_x_present_operation_badColumn a_x_present_operation_products_cells a_x_present_operation_quotients_cells f_x_present_braid_strands f_x_present_braid_count a_x_present_braid_crossings f_x_present_weights_modulus a_x_present_weights_values_cells f_x_history_count pa_x_history_past P_x_history_past := by
  have h0 := h
  obtain ⟨c, hc, rfl, rfl, ⟨n, s, k, m, t, w, g, hG, hX, hM⟩, hH⟩ := h
  obtain ⟨rfl, hb, ht, hq, rfl, rfl, hg, rfl, hw⟩ := q_Xd hX
  obtain ⟨g1, g2, g3, g4, g5, g6, g7, g8, g9, g10⟩ := id hG
  obtain ⟨m1, m2, m3, m4, m5, m6, m7⟩ := id hM
  exact s_begin hc (fun r' pa' P' hr hP => s_becomeConj (fun b p' q' hb' hp' hq' => s_mConj hc (fun N' H' o r th hE hL => ⟨rfl, q_loaded (n := 6) hc (by omega) (by omega) (fun x y hx hy => q_cj6 x hx y hy) hG hX hM hH hP hE hL hb' hp' hq' hr hg⟩)))

theorem st_setModulus {f_x_present_operation_size : Int32} {f_x_present_operation_badColumn : Int32} {a_x_present_operation_products_cells : Nat → Int32} {a_x_present_operation_quotients_cells : Nat → Int32} {f_x_present_braid_strands : Int32} {f_x_present_braid_count : Int32} {a_x_present_braid_crossings : Nat → Int32} {f_x_present_weights_modulus : Int32} {a_x_present_weights_values_cells : Nat → Int32} {f_x_history_count : Int32} {pa_x_history_past : Nat → Nat → Nat} {P_x_history_past : Nat → qn_St} {f_m_edits : Int32} {a_m_now : Nat → Int32} {a_m_history : Nat → Int32} (h : qn_Inv (f_x_present_operation_size, f_x_present_operation_badColumn, a_x_present_operation_products_cells, a_x_present_operation_quotients_cells, f_x_present_braid_strands, f_x_present_braid_count, a_x_present_braid_crossings, f_x_present_weights_modulus, a_x_present_weights_values_cells) f_x_history_count P_x_history_past a_m_now a_m_history f_m_edits) (x1 : Int32) : wp_X9_setModulus (fun (r : Int32) (f_x_present_weights_modulus' : Int32) (a_x_present_weights_values_cells' : Nat → Int32) (f_x_history_count' : Int32) (pa_x_history_past' : Nat → Nat → Nat) (P_x_history_past' : Nat → qn_St) => wp_X10_setModulus (fun (r2 : Int32) (f_m_edits' : Int32) (a_m_now' : Nat → Int32) (a_m_history' : Nat → Int32) => r = r2 ∧ qn_Inv (f_x_present_operation_size, f_x_present_operation_badColumn, a_x_present_operation_products_cells, a_x_present_operation_quotients_cells, f_x_present_braid_strands, f_x_present_braid_count, a_x_present_braid_crossings, f_x_present_weights_modulus', a_x_present_weights_values_cells') (f_x_history_count') (P_x_history_past') (a_m_now') (a_m_history') (f_m_edits')) f_m_edits a_m_now a_m_history x1) f_x_present_operation_size f_x_present_operation_badColumn a_x_present_operation_products_cells a_x_present_operation_quotients_cells f_x_present_braid_strands f_x_present_braid_count a_x_present_braid_crossings f_x_present_weights_modulus a_x_present_weights_values_cells f_x_history_count pa_x_history_past P_x_history_past x1 := by
  have h0 := h
  obtain ⟨c, hc, rfl, rfl, ⟨n, s, k, m, t, w, g, hG, hX, hM⟩, hH⟩ := h
  obtain ⟨rfl, hb, ht, hq, rfl, rfl, hg, rfl, hw⟩ := q_Xd hX
  obtain ⟨g1, g2, g3, g4, g5, g6, g7, g8, g9, g10⟩ := id hG
  obtain ⟨m1, m2, m3, m4, m5, m6, m7⟩ := id hM
  rcases q_tri x1 (a := 2) (b := 12) (by omega) (by omega) with hx | hx | ⟨z, h1, h2, rfl⟩
  · exact ⟨fun _ => s_inF (Or.inl hx) ⟨fun z => absurd rfl z, fun _ => ⟨rfl, h0⟩⟩, fun z => absurd hx z⟩
  · have h5 : ¬ x1 ≤ 12 := by
      have h6 : nI 12 < x1 := hx
      rw [fa_lt] at h6
      intro h7
      rw [fa_le] at h7
      have : (nI 12).toInt = (12 : Int32).toInt := rfl
      omega
    have h6 : ¬ x1 < 2 := by
      have h7 : nI 12 < x1 := hx
      rw [fa_lt] at h7
      intro h8
      rw [fa_lt] at h8
      have e1 : (nI 12).toInt = 12 := by decide
      have e2 : (2 : Int32).toInt = 2 := by decide
      omega
    exact ⟨fun z => absurd z h6, fun _ => ⟨fun z => absurd z h5, fun _ => s_inF (Or.inr hx) ⟨fun z => absurd rfl z, fun _ => ⟨rfl, h0⟩⟩⟩⟩
  · refine pk_lt z 2 (fun q => absurd q (by omega)) (fun _ => pk_le z 12 (fun _ => s_remember hc (fun pa' P' hP => s_clear (fun r' hr => ?_))) (fun q => absurd q (by omega)))
    refine s_inT (b := 2) (c := 12) h1 h2 (by decide) ⟨fun _ => s_edit hc (fun H' hE => ⟨pk_in 87 88 (by omega), nm_r (e' := nI m) (by rw [q87, m6]) ⟨pk_in 87 88 (by omega), nm_r (by rw [q87]) (s_zeroW (fun N' hz ho => ⟨rfl, ?_⟩))⟩⟩), fun q => absurd q (by decide)⟩
    refine ⟨qn_nx c, q_nx5 c hc, rfl, rfl, ⟨n, s, k, z, t, fun _ _ => 0, g, ⟨g1, g2, g3, g4, g5, h1, h2, g8, fun _ _ _ _ => (show 0 < z by omega), g10⟩, ⟨rfl, hb, ht, hq, rfl, rfl, hg, rfl, fun x y hx hy => hr _ (by omega)⟩, ⟨?_, fun a b ha hb => ?_, ?_, ?_, fun j hj => ?_, ?_, fun x y hx hy => hz _ (by omega) (by omega)⟩⟩, q_push hc ⟨n, s, k, m, t, w, g, hG, hX, hM⟩ hH hP hE⟩
    · rw [ho 84 (by omega), pk_un (by omega)]; exact m1
    · rw [ho _ (by omega), pk_un (by omega)]; exact m2 a b ha hb
    · rw [ho 85 (by omega), pk_un (by omega)]; exact m3
    · rw [ho 86 (by omega), pk_un (by omega)]; exact m4
    · rw [ho _ (by omega), pk_un (by omega)]; exact m5 j hj
    · rw [ho 87 (by omega), pk_us]

theorem st_addCoboundary {f_x_present_operation_size : Int32} {f_x_present_operation_badColumn : Int32} {a_x_present_operation_products_cells : Nat → Int32} {a_x_present_operation_quotients_cells : Nat → Int32} {f_x_present_braid_strands : Int32} {f_x_present_braid_count : Int32} {a_x_present_braid_crossings : Nat → Int32} {f_x_present_weights_modulus : Int32} {a_x_present_weights_values_cells : Nat → Int32} {f_x_history_count : Int32} {pa_x_history_past : Nat → Nat → Nat} {P_x_history_past : Nat → qn_St} {f_m_edits : Int32} {a_m_now : Nat → Int32} {a_m_history : Nat → Int32} (h : qn_Inv (f_x_present_operation_size, f_x_present_operation_badColumn, a_x_present_operation_products_cells, a_x_present_operation_quotients_cells, f_x_present_braid_strands, f_x_present_braid_count, a_x_present_braid_crossings, f_x_present_weights_modulus, a_x_present_weights_values_cells) f_x_history_count P_x_history_past a_m_now a_m_history f_m_edits) (x1 x2 : Int32) : wp_X9_addCoboundary (fun (r : Int32) (a_x_present_weights_values_cells' : Nat → Int32) (f_x_history_count' : Int32) (pa_x_history_past' : Nat → Nat → Nat) (P_x_history_past' : Nat → qn_St) => wp_X10_addCoboundary (fun (r2 : Int32) (f_m_edits' : Int32) (a_m_now' : Nat → Int32) (a_m_history' : Nat → Int32) => r = r2 ∧ qn_Inv (f_x_present_operation_size, f_x_present_operation_badColumn, a_x_present_operation_products_cells, a_x_present_operation_quotients_cells, f_x_present_braid_strands, f_x_present_braid_count, a_x_present_braid_crossings, f_x_present_weights_modulus, a_x_present_weights_values_cells') (f_x_history_count') (P_x_history_past') (a_m_now') (a_m_history') (f_m_edits')) f_m_edits a_m_now a_m_history x1 x2) f_x_present_operation_size f_x_present_operation_badColumn a_x_present_operation_products_cells a_x_present_operation_quotients_cells f_x_present_braid_strands f_x_present_braid_count a_x_present_braid_crossings f_x_present_weights_modulus a_x_present_weights_values_cells f_x_history_count pa_x_history_past P_x_history_past x1 x2 := by
  have h0 := h
  obtain ⟨c, hc, rfl, rfl, ⟨n, s, k, m, t, w, g, hG, hX, hM⟩, hH⟩ := h
  obtain ⟨rfl, hb, ht, hq, rfl, rfl, hg, rfl, hw⟩ := q_Xd hX
  obtain ⟨g1, g2, g3, g4, g5, g6, g7, g8, g9, g10⟩ := id hG
  obtain ⟨m1, m2, m3, m4, m5, m6, m7⟩ := id hM
  rcases q_el x1 (n := n) (by omega) with hx | ⟨x, hx, rfl⟩
  · exact s_hasF hx ⟨fun _ => s_isElF m1 g1 g2 hx ⟨fun _ => ⟨rfl, h0⟩, fun z => absurd rfl z⟩, fun z => absurd rfl z⟩
  · rcases q_el x2 (n := m) (by omega) with ha | ⟨a, ha, rfl⟩
    · refine s_hasT g2 hx ⟨fun z => absurd z (by decide), fun _ => s_wallF ha ⟨fun z => absurd rfl z, fun _ => s_isElT m1 g2 hx ⟨fun z => absurd z (by decide), fun _ => ⟨pk_in 87 88 (by omega), ?_⟩⟩⟩⟩
      rw [q87, m6]
      exact q_inw g6 g7 ha ⟨fun z => absurd rfl z, fun _ => ⟨rfl, h0⟩⟩
    · refine s_hasT g2 hx ⟨fun z => absurd z (by decide), fun _ => s_wallT g7 ha ⟨fun _ => s_remember hc (fun pa' P' hP => s_addB g2 g7 g8 g9 ht hw hx ha (fun q' hq' => ?_)), fun z => absurd z (by decide)⟩⟩
      refine s_isElT m1 g2 hx ⟨fun z => absurd z (by decide), fun _ => ⟨pk_in 87 88 (by omega), ?_⟩⟩
      rw [q87, m6]
      refine q_inwT g7 ha ⟨fun _ => s_edit hc (fun H' hE => s_mCob g2 g6 g7 g8 g9 m1 m6 m2 m7 hx ha (fun N' hN ho => ⟨rfl, ?_⟩)), fun z => absurd z (by decide)⟩
      exact ⟨qn_nx c, q_nx5 c hc, rfl, rfl, ⟨n, s, k, m, t, qn_cb m t x a w, g, ⟨g1, g2, g3, g4, g5, g6, g7, g8, fun _ _ _ _ => Nat.mod_lt _ (by omega), g10⟩, ⟨rfl, hb, ht, hq, rfl, rfl, hg, rfl, hq'⟩, ⟨(ho 84 (by omega)).trans m1, fun a b ha hb => (ho _ (by omega)).trans (m2 a b ha hb), (ho 85 (by omega)).trans m3, (ho 86 (by omega)).trans m4, fun j hj => (ho _ (by omega)).trans (m5 j hj), (ho 87 (by omega)).trans m6, hN⟩⟩, q_push hc ⟨n, s, k, m, t, w, g, hG, hX, hM⟩ hH hP hE⟩

theorem st_initX : wp_X6_becomeInitial (fun (s0 : Int32) (s1 : Int32) (s2 : Nat → Int32) (s3 : Nat → Int32) (s4 : Int32) (s5 : Int32) (s6 : Nat → Int32) (s7 : Int32) (s8 : Nat → Int32) => wp_X10_init (fun v => qn_Inv (s0, s1, s2, s3, s4, s5, s6, s7, s8) 0 (fun _ => qn_S0) v (fun _ => 0) 0)) (fun _ => 0) (fun _ => 0) (fun _ => 0) (fun _ => 0) := by
  refine s_linear (n := 3) (T := qn_Dih 3) (by omega) (by omega) (fun x y hx hy => q_fD 3 (by omega) (by omega) x hx y hy) (fun x y hx hy => q_dih3 x hx y hy) (fun b p' q' hb hp hq => ?_)
  unfold wp_X1_restart
  refine s_append (k := 0) (by omega) (s_append (k := 1) (by omega) (s_append (k := 2) (by omega) (s_clear (fun r' hr => s_mInit (fun N h84 h85 h86 h87 hc ht hz => ?_)))))
  refine ⟨0, by omega, rfl, rfl, ⟨3, 2, 3, 3, qn_Dih 3, fun _ _ => 0, fun _ => 1, ⟨by omega, by omega, by omega, by omega, by omega, by omega, by omega, fun x y hx hy => q_dih3 x hx y hy, fun _ _ _ _ => (show 0 < 3 by omega), fun j hj => ⟨1, by omega, by omega, Or.inl rfl⟩⟩, ⟨rfl, hb, hp, hq, rfl, rfl, fun j hj => ?_, rfl, fun x y hx hy => hr _ (by omega)⟩, ⟨h84, ht, h85, h86, hc, h87, fun x y hx hy => hz _ (by omega) (by omega)⟩⟩, fun i hi => absurd hi (by omega)⟩
  rcases (show j = 0 ∨ j = 1 ∨ j = 2 by omega) with rfl | rfl | rfl <;> rfl
