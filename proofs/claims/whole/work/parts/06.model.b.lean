-- QuandleColoringsModel.violation(Z)I
abbrev rm_X10_violation : Room := { frames := 1, cells := 0, slots := 0, locals := 22 }
abbrev wd_X10_violation (G : qn_G) (h_this h_now h_history h_over h_order h_colors h_row h_three h_seen h_group : Nat) (f_edits : Int32) (f_total : Int32) (a_now : Nat → Int32) : va_W := [(h_this, .inr (10, [.ref h_now, .ref h_history, .int f_edits, .ref h_over, .ref h_order, .ref h_colors, .int f_total, .ref h_row, .ref h_three, .ref h_seen, .ref h_group])), (h_now, .inl (G.2.1, 88, .inl a_now))]
theorem in_X10_violation_X10 : ∀ w ∈ u_ws RX10 TX10 11, w ∈ wsX10_violation := by decide +kernel
theorem lk_X10_violation_7 : Cond.fieldLink RX10 7 "QuandleColoringsModel" "now" "[I" ∈ wsX10_violation := by decide +kernel
def wp_X10_violation_J174 (post : Int32 → Prop) (BL10 : Int32 → Prop) (x3 : Int32) (z0 : Int32) : Prop := ((¬ z0 = 0 → (∀ x3_21 : Int32, x3_21 = x3 + 1 → (BL10 x3_21))) ∧ (z0 = 0 → (post x3)))
def wp_X10_violation_L10 (post : Int32 → Prop) (KL10 : Prop) (x1 : Int32) (x2 : Int32) (a_now : Nat → Int32) : Nat → Int32 → Prop
  | 0 => fun _ => False
  | fu + 1 => fun x3 => ((216 ≤ x3 → KL10) ∧ (¬ 216 ≤ x3 → (∀ z_3 : Int32, z_3 = x3 / 36 → (∀ z_4 : Int32, z_4 = x3 / 6 → (∀ z_5 : Int32, z_5 = z_4 - z_4 / 6 * 6 → (∀ z_6 : Int32, z_6 = x3 - x3 / 6 * 6 → ((x2 ≤ z_3 → (∀ x3_8 : Int32, x3_8 = x3 + 1 → ((wp_X10_violation_L10 post KL10 x1 x2 a_now fu) x3_8))) ∧ (¬ x2 ≤ z_3 → ((x2 ≤ z_5 → (∀ x3_10 : Int32, x3_10 = x3 + 1 → ((wp_X10_violation_L10 post KL10 x1 x2 a_now fu) x3_10))) ∧ (¬ x2 ≤ z_5 → ((x2 ≤ z_6 → (∀ x3_12 : Int32, x3_12 = x3 + 1 → ((wp_X10_violation_L10 post KL10 x1 x2 a_now fu) x3_12))) ∧ (¬ x2 ≤ z_6 → ((x1 = 0 → (wp_X10_of (fun (r_14 : Int32) => (wp_X10_of (fun (r_15 : Int32) => (wp_X10_of (fun (r_16 : Int32) => (wp_X10_of (fun (r_17 : Int32) => (wp_X10_of (fun (r_18 : Int32) => ((¬ r_15 = r_18 → (wp_X10_violation_J174 post (wp_X10_violation_L10 post KL10 x1 x2 a_now fu) x3 0)) ∧ (r_15 = r_18 → (wp_X10_violation_J174 post (wp_X10_violation_L10 post KL10 x1 x2 a_now fu) x3 1)))) a_now r_16 r_17)) a_now z_5 z_6)) a_now z_3 z_6)) a_now r_14 z_6)) a_now z_3 z_5)) ∧ (¬ x1 = 0 → (wp_X10_weightOf (fun (r_26 : Int32) => (wp_X10_of (fun (r_27 : Int32) => (wp_X10_weightOf (fun (r_28 : Int32) => (wp_X10_weightOf (fun (r_29 : Int32) => (wp_X10_of (fun (r_30 : Int32) => (wp_X10_of (fun (r_31 : Int32) => (wp_X10_weightOf (fun (r_32 : Int32) => (vp_in 87 88 ∧ (¬ a_now (87 : Int32).toNatClampNeg = 0 ∧ (∀ z_33 : Int32, z_33 = (((r_26 + r_28) - r_29) - r_32) - (((r_26 + r_28) - r_29) - r_32) / (a_now (87 : Int32).toNatClampNeg) * (a_now (87 : Int32).toNatClampNeg) → ((¬ z_33 = 0 → (wp_X10_violation_J174 post (wp_X10_violation_L10 post KL10 x1 x2 a_now fu) x3 0)) ∧ (z_33 = 0 → (wp_X10_violation_J174 post (wp_X10_violation_L10 post KL10 x1 x2 a_now fu) x3 1))))))) a_now r_30 r_31)) a_now z_5 z_6)) a_now z_3 z_6)) a_now z_3 z_6)) a_now r_27 z_6)) a_now z_3 z_5)) a_now z_3 z_5)))))))))))))))
def wp_X10_violation (post : Int32 → Prop) (a_now : Nat → Int32) (x1 : Int32) : Prop := (vp_in 84 88 ∧ (∀ x2_1 : Int32, x2_1 = a_now (84 : Int32).toNatClampNeg → (∃ fu_39 : Nat, wp_X10_violation_L10 post (post (-4)) x1 x2_1 a_now fu_39 0)))
set_option maxHeartbeats 4000000 in
set_option maxRecDepth 100000 in
theorem l_X10_violation_10 {p : Program} {l : Launch} {e : Env} {s : State} {m : MethodId} {args : Array Value} {below : List Frame} {meth : Method} {c : Code} {G : qn_G} {A : Nat → Prop} {h_this h_now h_history h_over h_order h_colors h_row h_three h_seen h_group : Nat} {f_edits : Int32} {f_total : Int32} {a_now : Nat → Int32} {x1 : Int32} {x2 : Int32} {post : Int32 → Prop} {KL10 : Prop} (C0 : qn_C p m c cX10_violation 8 s args wsX10_violation RX10 meth (some .int)) (hE : qn_EV G s) (hA : ∀ q, s.heap.size ≤ q → A q) (hKc : KL10 → ∀ (H : Heap) (locs : List Loc) (ls : Array Slot), va_P G.1 vwCl (wd_X10_violation G h_this h_now h_history h_over h_order h_colors h_row h_three h_seen h_group f_edits f_total a_now) H → va_D A (wd_X10_violation G h_this h_now h_history h_over h_order h_colors h_row h_three h_seen h_group f_edits f_total a_now) → va_S A s.heap H locs → lv_has ls 8 [] → W p l e (headSpec wsX10_violation rm_X10_violation).room s m args below meth c H locs 0 0 (MQ below (qn_QI G (fun (r : Int32) (u : Unit) => post r) (fun u : Unit => wd_X10_violation G h_this h_now h_history h_over h_order h_colors h_row h_three h_seen h_group f_edits f_total a_now) A) args s 0 0 A) (F0 m 189 ls [])) :
    ∀ (fu : Nat) (x3 : Int32), wp_X10_violation_L10 post KL10 x1 x2 a_now fu x3 → ∀ (H : Heap) (locs : List Loc) (ls : Array Slot), va_P G.1 vwCl (wd_X10_violation G h_this h_now h_history h_over h_order h_colors h_row h_three h_seen h_group f_edits f_total a_now) H → va_D A (wd_X10_violation G h_this h_now h_history h_over h_order h_colors h_row h_three h_seen h_group f_edits f_total a_now) → va_S A s.heap H locs → lv_has ls 8 [(0, .ref h_this), (1, .int x1), (2, .int x2), (3, .int x3)] → W p l e (headSpec wsX10_violation rm_X10_violation).room s m args below meth c H locs 0 0 (MQ below (qn_QI G (fun (r : Int32) (u : Unit) => post r) (fun u : Unit => wd_X10_violation G h_this h_now h_history h_over h_order h_colors h_row h_three h_seen h_group f_edits f_total a_now) A) args s 0 0 A) (F0 m 10 ls []) := by
  obtain ⟨hx, hb, hml, hown, hts, hr, hlocks⟩ := id C0
  intro fu
  induction fu with
  | zero => intro x3 hw; exact hw.elim
  | succ fu ih =>
    intro x3 hw H locs ls hP hD hS hl
    refine lv_iload_n hx hb dX10_violation_10 rfl (lv_at hl 3 rfl) ?_
    refine lv_sipush (v := 216) hx hb dX10_violation_11 (by decide) ?_
    refine lv_icmp_ge (tgt := 189) hx hb dX10_violation_14 (by decide) (fun c_2 => ?_) (fun c_2 => ?_)
    · have hw := hw.1 c_2
      exact hKc  hw _ _ _ hP hD hS (lv_sub hl [] rfl)
    · have hw := hw.2 c_2
      refine lv_iload_n hx hb dX10_violation_17 rfl (lv_at hl 3 rfl) ?_
      refine lv_bipush (v := 36) hx hb dX10_violation_18 (by decide) ?_
      refine lv_idiv hx hb dX10_violation_20 (by decide) ?_
      refine lv_topi (fun z_3 ez_3 => ?_)
      have hw := hw z_3 ez_3
      refine lv_istore (lv' := [(4, .int z_3), (0, .ref h_this), (1, .int x1), (2, .int x2), (3, .int x3)]) hx hb dX10_violation_21 hl (by decide) rfl (fun ls hl => ?_)
      refine lv_iload_n hx hb dX10_violation_23 rfl (lv_at hl 4 rfl) ?_
      refine lv_bipush (v := 6) hx hb dX10_violation_24 (by decide) ?_
      refine lv_idiv hx hb dX10_violation_26 (by decide) ?_
      refine lv_topi (fun z_4 ez_4 => ?_)
      have hw := hw z_4 ez_4
      refine lv_bipush (v := 6) hx hb dX10_violation_27 (by decide) ?_
      refine lv_irem hx hb dX10_violation_29 (by decide) ?_
      refine lv_topi (fun z_5 ez_5 => ?_)
      have hw := hw z_5 ez_5
      refine lv_istore (lv' := [(5, .int z_5), (4, .int z_3), (0, .ref h_this), (1, .int x1), (2, .int x2), (3, .int x3)]) hx hb dX10_violation_30 hl (by decide) rfl (fun ls hl => ?_)
      refine lv_iload_n hx hb dX10_violation_32 rfl (lv_at hl 5 rfl) ?_
      refine lv_bipush (v := 6) hx hb dX10_violation_33 (by decide) ?_
      refine lv_irem hx hb dX10_violation_35 (by decide) ?_
      refine lv_topi (fun z_6 ez_6 => ?_)
      have hw := hw z_6 ez_6
      refine lv_istore (lv' := [(6, .int z_6), (5, .int z_5), (4, .int z_3), (0, .ref h_this), (1, .int x1), (2, .int x2), (3, .int x3)]) hx hb dX10_violation_36 hl (by decide) rfl (fun ls hl => ?_)
      refine lv_iload hx hb dX10_violation_38 (lv_at hl 2 rfl) ?_
      refine lv_iload_n hx hb dX10_violation_40 rfl (lv_at hl 5 rfl) ?_
      refine lv_icmp_ge (tgt := 183) hx hb dX10_violation_41 (by decide) (fun c_7 => ?_) (fun c_7 => ?_)
      · have hw := hw.1 c_7
        obtain ⟨x3_8, ex3_8⟩ : ∃ y : Int32, y = x3 + 1 := ⟨_, rfl⟩
        have hw := hw x3_8 ex3_8
        refine lv_iinc (v := x3_8) (lv' := [(3, .int x3_8), (6, .int z_6), (5, .int z_5), (4, .int z_3), (0, .ref h_this), (1, .int x1), (2, .int x2)]) hx hb dX10_violation_183 hl (k := 6) rfl (by rw [ex3_8]; rfl) (by decide) rfl (fun ls hl => ?_)
        refine lv_goto (tgt := 10) hx hb dX10_violation_186 (by decide) ?_
        exact ih x3_8 hw _ _ _ hP hD hS (lv_sub hl [4, 5, 6, 0] rfl)
      · have hw := hw.2 c_7
        refine lv_iload hx hb dX10_violation_44 (lv_at hl 1 rfl) ?_
        refine lv_iload_n hx hb dX10_violation_46 rfl (lv_at hl 5 rfl) ?_
        refine lv_icmp_ge (tgt := 183) hx hb dX10_violation_47 (by decide) (fun c_9 => ?_) (fun c_9 => ?_)
        · have hw := hw.1 c_9
          obtain ⟨x3_10, ex3_10⟩ : ∃ y : Int32, y = x3 + 1 := ⟨_, rfl⟩
          have hw := hw x3_10 ex3_10
          refine lv_iinc (v := x3_10) (lv' := [(3, .int x3_10), (6, .int z_6), (5, .int z_5), (4, .int z_3), (0, .ref h_this), (1, .int x1), (2, .int x2)]) hx hb dX10_violation_183 hl (k := 6) rfl (by rw [ex3_10]; rfl) (by decide) rfl (fun ls hl => ?_)
          refine lv_goto (tgt := 10) hx hb dX10_violation_186 (by decide) ?_
          exact ih x3_10 hw _ _ _ hP hD hS (lv_sub hl [4, 5, 6, 0] rfl)
        · have hw := hw.2 c_9
          refine lv_iload hx hb dX10_violation_50 (lv_at hl 0 rfl) ?_
          refine lv_iload_n hx hb dX10_violation_52 rfl (lv_at hl 5 rfl) ?_
          refine lv_icmp_ge (tgt := 183) hx hb dX10_violation_53 (by decide) (fun c_11 => ?_) (fun c_11 => ?_)
          · have hw := hw.1 c_11
            obtain ⟨x3_12, ex3_12⟩ : ∃ y : Int32, y = x3 + 1 := ⟨_, rfl⟩
            have hw := hw x3_12 ex3_12
            refine lv_iinc (v := x3_12) (lv' := [(3, .int x3_12), (6, .int z_6), (5, .int z_5), (4, .int z_3), (0, .ref h_this), (1, .int x1), (2, .int x2)]) hx hb dX10_violation_183 hl (k := 6) rfl (by rw [ex3_12]; rfl) (by decide) rfl (fun ls hl => ?_)
            refine lv_goto (tgt := 10) hx hb dX10_violation_186 (by decide) ?_
            exact ih x3_12 hw _ _ _ hP hD hS (lv_sub hl [4, 5, 6, 0] rfl)
          · have hw := hw.2 c_11
            refine lv_iload_n hx hb dX10_violation_56 rfl (lv_at hl 4 rfl) ?_
            refine lv_if_eq (tgt := 132) hx hb dX10_violation_57 (by decide) (fun c_13 => ?_) (fun c_13 => ?_)
            · have hw := hw.1 c_13
              refine lv_aload_n hx hb dX10_violation_132 rfl (lv_at hl 3 rfl) ?_
              refine lv_aload_n hx hb dX10_violation_133 rfl (lv_at hl 3 rfl) ?_
              refine lv_iload hx hb dX10_violation_134 (lv_at hl 2 rfl) ?_
              refine lv_iload hx hb dX10_violation_136 (lv_at hl 1 rfl) ?_
              have hC9 : ([0, 1]).map (fun i => (wd_X10_violation G h_this h_now h_history h_over h_order h_colors h_row h_three h_seen h_group f_edits f_total a_now)[i]?) = (wd_X10_of G h_this h_now h_history h_over h_order h_colors h_row h_three h_seen h_group f_edits f_total a_now).map some := rfl
              refine qn_callI (wd := (fun u : Unit => wd_X10_violation G h_this h_now h_history h_over h_order h_colors h_row h_three h_seen h_group f_edits f_total a_now)) [0, 1] (va_runV (As := [.int z_3, .int z_5]) (rest := [.ref h_this]) ⟨hx, hb, hml, hown, hts⟩ (c_X10_of G _ h_this h_now h_history h_over h_order h_colors h_row h_three h_seen h_group f_edits f_total a_now z_3 z_5 hw) (cwV 2 hts gX10_violation_X10_of rfl rfl rfl (by decide +kernel) ⟨Nat.le_of_ble_eq_true rfl, Nat.le_of_ble_eq_true rfl⟩) (qn_preV hE hP hD [0, 1] hC9 (by decide +kernel) (ci := 10) rfl rfl) rfl rfl hl.1 rfl (lv_room (Nat.le_of_ble_eq_true rfl)) dX10_violation_138 ⟨Nat.le_of_ble_eq_true rfl, Nat.le_of_ble_eq_true rfl⟩) hP hD hS hA hC9 [some 0, some 1] (M := 2) rfl (by decide +kernel) (fun _ => rfl) (fun _ => rfl) (fun r_14 _ H locs hw hP hD hS => ?_)
              try dsimp only at hw
              have hP : va_P G.1 vwCl (wd_X10_violation G h_this h_now h_history h_over h_order h_colors h_row h_three h_seen h_group f_edits f_total a_now) H := hP
              have hD : va_D A (wd_X10_violation G h_this h_now h_history h_over h_order h_colors h_row h_three h_seen h_group f_edits f_total a_now) := hD
              refine lv_iload hx hb dX10_violation_141 (lv_at hl 0 rfl) ?_
              have hC9 : ([0, 1]).map (fun i => (wd_X10_violation G h_this h_now h_history h_over h_order h_colors h_row h_three h_seen h_group f_edits f_total a_now)[i]?) = (wd_X10_of G h_this h_now h_history h_over h_order h_colors h_row h_three h_seen h_group f_edits f_total a_now).map some := rfl
              refine qn_callI (wd := (fun u : Unit => wd_X10_violation G h_this h_now h_history h_over h_order h_colors h_row h_three h_seen h_group f_edits f_total a_now)) [0, 1] (va_runV (As := [.int r_14, .int z_6]) (rest := []) ⟨hx, hb, hml, hown, hts⟩ (c_X10_of G _ h_this h_now h_history h_over h_order h_colors h_row h_three h_seen h_group f_edits f_total a_now r_14 z_6 hw) (cwV 2 hts gX10_violation_X10_of rfl rfl rfl (by decide +kernel) ⟨Nat.le_of_ble_eq_true rfl, Nat.le_of_ble_eq_true rfl⟩) (qn_preV hE hP hD [0, 1] hC9 (by decide +kernel) (ci := 10) rfl rfl) rfl rfl hl.1 rfl (lv_room (Nat.le_of_ble_eq_true rfl)) dX10_violation_143 ⟨Nat.le_of_ble_eq_true rfl, Nat.le_of_ble_eq_true rfl⟩) hP hD hS hA hC9 [some 0, some 1] (M := 2) rfl (by decide +kernel) (fun _ => rfl) (fun _ => rfl) (fun r_15 _ H locs hw hP hD hS => ?_)
              try dsimp only at hw
              have hP : va_P G.1 vwCl (wd_X10_violation G h_this h_now h_history h_over h_order h_colors h_row h_three h_seen h_group f_edits f_total a_now) H := hP
              have hD : va_D A (wd_X10_violation G h_this h_now h_history h_over h_order h_colors h_row h_three h_seen h_group f_edits f_total a_now) := hD
              refine lv_aload_n hx hb dX10_violation_146 rfl (lv_at hl 3 rfl) ?_
              refine lv_aload_n hx hb dX10_violation_147 rfl (lv_at hl 3 rfl) ?_
              refine lv_iload hx hb dX10_violation_148 (lv_at hl 2 rfl) ?_
              refine lv_iload hx hb dX10_violation_150 (lv_at hl 0 rfl) ?_
              have hC9 : ([0, 1]).map (fun i => (wd_X10_violation G h_this h_now h_history h_over h_order h_colors h_row h_three h_seen h_group f_edits f_total a_now)[i]?) = (wd_X10_of G h_this h_now h_history h_over h_order h_colors h_row h_three h_seen h_group f_edits f_total a_now).map some := rfl
              refine qn_callI (wd := (fun u : Unit => wd_X10_violation G h_this h_now h_history h_over h_order h_colors h_row h_three h_seen h_group f_edits f_total a_now)) [0, 1] (va_runV (As := [.int z_3, .int z_6]) (rest := [.ref h_this, .int r_15]) ⟨hx, hb, hml, hown, hts⟩ (c_X10_of G _ h_this h_now h_history h_over h_order h_colors h_row h_three h_seen h_group f_edits f_total a_now z_3 z_6 hw) (cwV 2 hts gX10_violation_X10_of rfl rfl rfl (by decide +kernel) ⟨Nat.le_of_ble_eq_true rfl, Nat.le_of_ble_eq_true rfl⟩) (qn_preV hE hP hD [0, 1] hC9 (by decide +kernel) (ci := 10) rfl rfl) rfl rfl hl.1 rfl (lv_room (Nat.le_of_ble_eq_true rfl)) dX10_violation_152 ⟨Nat.le_of_ble_eq_true rfl, Nat.le_of_ble_eq_true rfl⟩) hP hD hS hA hC9 [some 0, some 1] (M := 2) rfl (by decide +kernel) (fun _ => rfl) (fun _ => rfl) (fun r_16 _ H locs hw hP hD hS => ?_)
              try dsimp only at hw
              have hP : va_P G.1 vwCl (wd_X10_violation G h_this h_now h_history h_over h_order h_colors h_row h_three h_seen h_group f_edits f_total a_now) H := hP
              have hD : va_D A (wd_X10_violation G h_this h_now h_history h_over h_order h_colors h_row h_three h_seen h_group f_edits f_total a_now) := hD
              refine lv_aload_n hx hb dX10_violation_155 rfl (lv_at hl 3 rfl) ?_
              refine lv_iload hx hb dX10_violation_156 (lv_at hl 1 rfl) ?_
              refine lv_iload hx hb dX10_violation_158 (lv_at hl 0 rfl) ?_
              have hC9 : ([0, 1]).map (fun i => (wd_X10_violation G h_this h_now h_history h_over h_order h_colors h_row h_three h_seen h_group f_edits f_total a_now)[i]?) = (wd_X10_of G h_this h_now h_history h_over h_order h_colors h_row h_three h_seen h_group f_edits f_total a_now).map some := rfl
              refine qn_callI (wd := (fun u : Unit => wd_X10_violation G h_this h_now h_history h_over h_order h_colors h_row h_three h_seen h_group f_edits f_total a_now)) [0, 1] (va_runV (As := [.int z_5, .int z_6]) (rest := [.int r_16, .ref h_this, .int r_15]) ⟨hx, hb, hml, hown, hts⟩ (c_X10_of G _ h_this h_now h_history h_over h_order h_colors h_row h_three h_seen h_group f_edits f_total a_now z_5 z_6 hw) (cwV 2 hts gX10_violation_X10_of rfl rfl rfl (by decide +kernel) ⟨Nat.le_of_ble_eq_true rfl, Nat.le_of_ble_eq_true rfl⟩) (qn_preV hE hP hD [0, 1] hC9 (by decide +kernel) (ci := 10) rfl rfl) rfl rfl hl.1 rfl (lv_room (Nat.le_of_ble_eq_true rfl)) dX10_violation_160 ⟨Nat.le_of_ble_eq_true rfl, Nat.le_of_ble_eq_true rfl⟩) hP hD hS hA hC9 [some 0, some 1] (M := 2) rfl (by decide +kernel) (fun _ => rfl) (fun _ => rfl) (fun r_17 _ H locs hw hP hD hS => ?_)
              try dsimp only at hw
              have hP : va_P G.1 vwCl (wd_X10_violation G h_this h_now h_history h_over h_order h_colors h_row h_three h_seen h_group f_edits f_total a_now) H := hP
              have hD : va_D A (wd_X10_violation G h_this h_now h_history h_over h_order h_colors h_row h_three h_seen h_group f_edits f_total a_now) := hD
              have hC9 : ([0, 1]).map (fun i => (wd_X10_violation G h_this h_now h_history h_over h_order h_colors h_row h_three h_seen h_group f_edits f_total a_now)[i]?) = (wd_X10_of G h_this h_now h_history h_over h_order h_colors h_row h_three h_seen h_group f_edits f_total a_now).map some := rfl
              refine qn_callI (wd := (fun u : Unit => wd_X10_violation G h_this h_now h_history h_over h_order h_colors h_row h_three h_seen h_group f_edits f_total a_now)) [0, 1] (va_runV (As := [.int r_16, .int r_17]) (rest := [.int r_15]) ⟨hx, hb, hml, hown, hts⟩ (c_X10_of G _ h_this h_now h_history h_over h_order h_colors h_row h_three h_seen h_group f_edits f_total a_now r_16 r_17 hw) (cwV 2 hts gX10_violation_X10_of rfl rfl rfl (by decide +kernel) ⟨Nat.le_of_ble_eq_true rfl, Nat.le_of_ble_eq_true rfl⟩) (qn_preV hE hP hD [0, 1] hC9 (by decide +kernel) (ci := 10) rfl rfl) rfl rfl hl.1 rfl (lv_room (Nat.le_of_ble_eq_true rfl)) dX10_violation_163 ⟨Nat.le_of_ble_eq_true rfl, Nat.le_of_ble_eq_true rfl⟩) hP hD hS hA hC9 [some 0, some 1] (M := 2) rfl (by decide +kernel) (fun _ => rfl) (fun _ => rfl) (fun r_18 _ H locs hw hP hD hS => ?_)
              try dsimp only at hw
              have hP : va_P G.1 vwCl (wd_X10_violation G h_this h_now h_history h_over h_order h_colors h_row h_three h_seen h_group f_edits f_total a_now) H := hP
              have hD : va_D A (wd_X10_violation G h_this h_now h_history h_over h_order h_colors h_row h_three h_seen h_group f_edits f_total a_now) := hD
              refine lv_icmp_ne (tgt := 173) hx hb dX10_violation_166 (by decide) (fun c_19 => ?_) (fun c_19 => ?_)
              · have hw := hw.1 c_19
                refine lv_iconst (v := 0) hx hb dX10_violation_173 (by decide) ?_
                refine lv_istore (lv' := [(7, .int 0), (6, .int z_6), (5, .int z_5), (4, .int z_3), (0, .ref h_this), (1, .int x1), (2, .int x2), (3, .int x3)]) hx hb dX10_violation_174 hl (by decide) rfl (fun ls hl => ?_)
                refine lv_iload hx hb dX10_violation_176 (lv_at hl 0 rfl) ?_
                refine lv_if_ne (tgt := 183) hx hb dX10_violation_178 (by decide) (fun c_22 => ?_) (fun c_22 => ?_)
                · have hw := hw.1 c_22
                  obtain ⟨x3_23, ex3_23⟩ : ∃ y : Int32, y = x3 + 1 := ⟨_, rfl⟩
                  have hw := hw x3_23 ex3_23
                  refine lv_iinc (v := x3_23) (lv' := [(3, .int x3_23), (7, .int 0), (6, .int z_6), (5, .int z_5), (4, .int z_3), (0, .ref h_this), (1, .int x1), (2, .int x2)]) hx hb dX10_violation_183 hl (k := 7) rfl (by rw [ex3_23]; rfl) (by decide) rfl (fun ls hl => ?_)
                  refine lv_goto (tgt := 10) hx hb dX10_violation_186 (by decide) ?_
                  exact ih x3_23 hw _ _ _ hP hD hS (lv_sub hl [5, 6, 7, 0] rfl)
                · have hw := hw.2 c_22
                  refine lv_iload_n hx hb dX10_violation_181 rfl (lv_at hl 7 rfl) ?_
                  exact W.iret (v := x3) hx hb hr (fun t ht hW => ⟨⟨x3, (), rfl, hw, by rw [ht]; exact hP, hD⟩, hS.F ht⟩) hS.2.2 dX10_violation_182
              · have hw := hw.2 c_19
                refine lv_iconst (v := 1) hx hb dX10_violation_169 (by decide) ?_
                refine lv_goto (tgt := 174) hx hb dX10_violation_170 (by decide) ?_
                refine lv_istore (lv' := [(7, .int 1), (6, .int z_6), (5, .int z_5), (4, .int z_3), (0, .ref h_this), (1, .int x1), (2, .int x2), (3, .int x3)]) hx hb dX10_violation_174 hl (by decide) rfl (fun ls hl => ?_)
                refine lv_iload hx hb dX10_violation_176 (lv_at hl 0 rfl) ?_
                refine lv_if_ne (tgt := 183) hx hb dX10_violation_178 (by decide) (fun c_24 => ?_) (fun c_24 => ?_)
                · have hw := hw.1 c_24
                  obtain ⟨x3_25, ex3_25⟩ : ∃ y : Int32, y = x3 + 1 := ⟨_, rfl⟩
                  have hw := hw x3_25 ex3_25
                  refine lv_iinc (v := x3_25) (lv' := [(3, .int x3_25), (7, .int 1), (6, .int z_6), (5, .int z_5), (4, .int z_3), (0, .ref h_this), (1, .int x1), (2, .int x2)]) hx hb dX10_violation_183 hl (k := 7) rfl (by rw [ex3_25]; rfl) (by decide) rfl (fun ls hl => ?_)
                  refine lv_goto (tgt := 10) hx hb dX10_violation_186 (by decide) ?_
                  exact ih x3_25 hw _ _ _ hP hD hS (lv_sub hl [5, 6, 7, 0] rfl)
                · have hw := hw.2 c_24
                  refine lv_iload_n hx hb dX10_violation_181 rfl (lv_at hl 7 rfl) ?_
                  exact W.iret (v := x3) hx hb hr (fun t ht hW => ⟨⟨x3, (), rfl, hw, by rw [ht]; exact hP, hD⟩, hS.F ht⟩) hS.2.2 dX10_violation_182
            · have hw := hw.2 c_13
              refine lv_aload_n hx hb dX10_violation_60 rfl (lv_at hl 3 rfl) ?_
              refine lv_iload hx hb dX10_violation_61 (lv_at hl 2 rfl) ?_
              refine lv_iload hx hb dX10_violation_63 (lv_at hl 1 rfl) ?_
              have hC9 : ([0, 1]).map (fun i => (wd_X10_violation G h_this h_now h_history h_over h_order h_colors h_row h_three h_seen h_group f_edits f_total a_now)[i]?) = (wd_X10_weightOf G h_this h_now h_history h_over h_order h_colors h_row h_three h_seen h_group f_edits f_total a_now).map some := rfl
              refine qn_callI (wd := (fun u : Unit => wd_X10_violation G h_this h_now h_history h_over h_order h_colors h_row h_three h_seen h_group f_edits f_total a_now)) [0, 1] (va_runV (As := [.int z_3, .int z_5]) (rest := []) ⟨hx, hb, hml, hown, hts⟩ (c_X10_weightOf G _ h_this h_now h_history h_over h_order h_colors h_row h_three h_seen h_group f_edits f_total a_now z_3 z_5 hw) (cwV 2 hts gX10_violation_X10_weightOf rfl rfl rfl (by decide +kernel) ⟨Nat.le_of_ble_eq_true rfl, Nat.le_of_ble_eq_true rfl⟩) (qn_preV hE hP hD [0, 1] hC9 (by decide +kernel) (ci := 10) rfl rfl) rfl rfl hl.1 rfl (lv_room (Nat.le_of_ble_eq_true rfl)) dX10_violation_65 ⟨Nat.le_of_ble_eq_true rfl, Nat.le_of_ble_eq_true rfl⟩) hP hD hS hA hC9 [some 0, some 1] (M := 2) rfl (by decide +kernel) (fun _ => rfl) (fun _ => rfl) (fun r_26 _ H locs hw hP hD hS => ?_)
              try dsimp only at hw
              have hP : va_P G.1 vwCl (wd_X10_violation G h_this h_now h_history h_over h_order h_colors h_row h_three h_seen h_group f_edits f_total a_now) H := hP
              have hD : va_D A (wd_X10_violation G h_this h_now h_history h_over h_order h_colors h_row h_three h_seen h_group f_edits f_total a_now) := hD
              refine lv_aload_n hx hb dX10_violation_68 rfl (lv_at hl 3 rfl) ?_
              refine lv_aload_n hx hb dX10_violation_69 rfl (lv_at hl 3 rfl) ?_
              refine lv_iload hx hb dX10_violation_70 (lv_at hl 2 rfl) ?_
              refine lv_iload hx hb dX10_violation_72 (lv_at hl 1 rfl) ?_
              have hC9 : ([0, 1]).map (fun i => (wd_X10_violation G h_this h_now h_history h_over h_order h_colors h_row h_three h_seen h_group f_edits f_total a_now)[i]?) = (wd_X10_of G h_this h_now h_history h_over h_order h_colors h_row h_three h_seen h_group f_edits f_total a_now).map some := rfl
              refine qn_callI (wd := (fun u : Unit => wd_X10_violation G h_this h_now h_history h_over h_order h_colors h_row h_three h_seen h_group f_edits f_total a_now)) [0, 1] (va_runV (As := [.int z_3, .int z_5]) (rest := [.ref h_this, .int r_26]) ⟨hx, hb, hml, hown, hts⟩ (c_X10_of G _ h_this h_now h_history h_over h_order h_colors h_row h_three h_seen h_group f_edits f_total a_now z_3 z_5 hw) (cwV 2 hts gX10_violation_X10_of rfl rfl rfl (by decide +kernel) ⟨Nat.le_of_ble_eq_true rfl, Nat.le_of_ble_eq_true rfl⟩) (qn_preV hE hP hD [0, 1] hC9 (by decide +kernel) (ci := 10) rfl rfl) rfl rfl hl.1 rfl (lv_room (Nat.le_of_ble_eq_true rfl)) dX10_violation_74 ⟨Nat.le_of_ble_eq_true rfl, Nat.le_of_ble_eq_true rfl⟩) hP hD hS hA hC9 [some 0, some 1] (M := 2) rfl (by decide +kernel) (fun _ => rfl) (fun _ => rfl) (fun r_27 _ H locs hw hP hD hS => ?_)
              try dsimp only at hw
              have hP : va_P G.1 vwCl (wd_X10_violation G h_this h_now h_history h_over h_order h_colors h_row h_three h_seen h_group f_edits f_total a_now) H := hP
              have hD : va_D A (wd_X10_violation G h_this h_now h_history h_over h_order h_colors h_row h_three h_seen h_group f_edits f_total a_now) := hD
              refine lv_iload hx hb dX10_violation_77 (lv_at hl 0 rfl) ?_
              have hC9 : ([0, 1]).map (fun i => (wd_X10_violation G h_this h_now h_history h_over h_order h_colors h_row h_three h_seen h_group f_edits f_total a_now)[i]?) = (wd_X10_weightOf G h_this h_now h_history h_over h_order h_colors h_row h_three h_seen h_group f_edits f_total a_now).map some := rfl
              refine qn_callI (wd := (fun u : Unit => wd_X10_violation G h_this h_now h_history h_over h_order h_colors h_row h_three h_seen h_group f_edits f_total a_now)) [0, 1] (va_runV (As := [.int r_27, .int z_6]) (rest := [.int r_26]) ⟨hx, hb, hml, hown, hts⟩ (c_X10_weightOf G _ h_this h_now h_history h_over h_order h_colors h_row h_three h_seen h_group f_edits f_total a_now r_27 z_6 hw) (cwV 2 hts gX10_violation_X10_weightOf rfl rfl rfl (by decide +kernel) ⟨Nat.le_of_ble_eq_true rfl, Nat.le_of_ble_eq_true rfl⟩) (qn_preV hE hP hD [0, 1] hC9 (by decide +kernel) (ci := 10) rfl rfl) rfl rfl hl.1 rfl (lv_room (Nat.le_of_ble_eq_true rfl)) dX10_violation_79 ⟨Nat.le_of_ble_eq_true rfl, Nat.le_of_ble_eq_true rfl⟩) hP hD hS hA hC9 [some 0, some 1] (M := 2) rfl (by decide +kernel) (fun _ => rfl) (fun _ => rfl) (fun r_28 _ H locs hw hP hD hS => ?_)
              try dsimp only at hw
              have hP : va_P G.1 vwCl (wd_X10_violation G h_this h_now h_history h_over h_order h_colors h_row h_three h_seen h_group f_edits f_total a_now) H := hP
              have hD : va_D A (wd_X10_violation G h_this h_now h_history h_over h_order h_colors h_row h_three h_seen h_group f_edits f_total a_now) := hD
              refine lv_iadd hx hb dX10_violation_82 ?_
              refine lv_aload_n hx hb dX10_violation_83 rfl (lv_at hl 3 rfl) ?_
              refine lv_iload hx hb dX10_violation_84 (lv_at hl 2 rfl) ?_
              refine lv_iload hx hb dX10_violation_86 (lv_at hl 0 rfl) ?_
              have hC9 : ([0, 1]).map (fun i => (wd_X10_violation G h_this h_now h_history h_over h_order h_colors h_row h_three h_seen h_group f_edits f_total a_now)[i]?) = (wd_X10_weightOf G h_this h_now h_history h_over h_order h_colors h_row h_three h_seen h_group f_edits f_total a_now).map some := rfl
              refine qn_callI (wd := (fun u : Unit => wd_X10_violation G h_this h_now h_history h_over h_order h_colors h_row h_three h_seen h_group f_edits f_total a_now)) [0, 1] (va_runV (As := [.int z_3, .int z_6]) (rest := [.int (r_26 + r_28)]) ⟨hx, hb, hml, hown, hts⟩ (c_X10_weightOf G _ h_this h_now h_history h_over h_order h_colors h_row h_three h_seen h_group f_edits f_total a_now z_3 z_6 hw) (cwV 2 hts gX10_violation_X10_weightOf rfl rfl rfl (by decide +kernel) ⟨Nat.le_of_ble_eq_true rfl, Nat.le_of_ble_eq_true rfl⟩) (qn_preV hE hP hD [0, 1] hC9 (by decide +kernel) (ci := 10) rfl rfl) rfl rfl hl.1 rfl (lv_room (Nat.le_of_ble_eq_true rfl)) dX10_violation_88 ⟨Nat.le_of_ble_eq_true rfl, Nat.le_of_ble_eq_true rfl⟩) hP hD hS hA hC9 [some 0, some 1] (M := 2) rfl (by decide +kernel) (fun _ => rfl) (fun _ => rfl) (fun r_29 _ H locs hw hP hD hS => ?_)
              try dsimp only at hw
              have hP : va_P G.1 vwCl (wd_X10_violation G h_this h_now h_history h_over h_order h_colors h_row h_three h_seen h_group f_edits f_total a_now) H := hP
              have hD : va_D A (wd_X10_violation G h_this h_now h_history h_over h_order h_colors h_row h_three h_seen h_group f_edits f_total a_now) := hD
              refine lv_isub hx hb dX10_violation_91 ?_
              refine lv_aload_n hx hb dX10_violation_92 rfl (lv_at hl 3 rfl) ?_
              refine lv_aload_n hx hb dX10_violation_93 rfl (lv_at hl 3 rfl) ?_
              refine lv_iload hx hb dX10_violation_94 (lv_at hl 2 rfl) ?_
              refine lv_iload hx hb dX10_violation_96 (lv_at hl 0 rfl) ?_
              have hC9 : ([0, 1]).map (fun i => (wd_X10_violation G h_this h_now h_history h_over h_order h_colors h_row h_three h_seen h_group f_edits f_total a_now)[i]?) = (wd_X10_of G h_this h_now h_history h_over h_order h_colors h_row h_three h_seen h_group f_edits f_total a_now).map some := rfl
              refine qn_callI (wd := (fun u : Unit => wd_X10_violation G h_this h_now h_history h_over h_order h_colors h_row h_three h_seen h_group f_edits f_total a_now)) [0, 1] (va_runV (As := [.int z_3, .int z_6]) (rest := [.ref h_this, .int ((r_26 + r_28) - r_29)]) ⟨hx, hb, hml, hown, hts⟩ (c_X10_of G _ h_this h_now h_history h_over h_order h_colors h_row h_three h_seen h_group f_edits f_total a_now z_3 z_6 hw) (cwV 2 hts gX10_violation_X10_of rfl rfl rfl (by decide +kernel) ⟨Nat.le_of_ble_eq_true rfl, Nat.le_of_ble_eq_true rfl⟩) (qn_preV hE hP hD [0, 1] hC9 (by decide +kernel) (ci := 10) rfl rfl) rfl rfl hl.1 rfl (lv_room (Nat.le_of_ble_eq_true rfl)) dX10_violation_98 ⟨Nat.le_of_ble_eq_true rfl, Nat.le_of_ble_eq_true rfl⟩) hP hD hS hA hC9 [some 0, some 1] (M := 2) rfl (by decide +kernel) (fun _ => rfl) (fun _ => rfl) (fun r_30 _ H locs hw hP hD hS => ?_)
              try dsimp only at hw
              have hP : va_P G.1 vwCl (wd_X10_violation G h_this h_now h_history h_over h_order h_colors h_row h_three h_seen h_group f_edits f_total a_now) H := hP
              have hD : va_D A (wd_X10_violation G h_this h_now h_history h_over h_order h_colors h_row h_three h_seen h_group f_edits f_total a_now) := hD
              refine lv_aload_n hx hb dX10_violation_101 rfl (lv_at hl 3 rfl) ?_
              refine lv_iload hx hb dX10_violation_102 (lv_at hl 1 rfl) ?_
              refine lv_iload hx hb dX10_violation_104 (lv_at hl 0 rfl) ?_
              have hC9 : ([0, 1]).map (fun i => (wd_X10_violation G h_this h_now h_history h_over h_order h_colors h_row h_three h_seen h_group f_edits f_total a_now)[i]?) = (wd_X10_of G h_this h_now h_history h_over h_order h_colors h_row h_three h_seen h_group f_edits f_total a_now).map some := rfl
              refine qn_callI (wd := (fun u : Unit => wd_X10_violation G h_this h_now h_history h_over h_order h_colors h_row h_three h_seen h_group f_edits f_total a_now)) [0, 1] (va_runV (As := [.int z_5, .int z_6]) (rest := [.int r_30, .ref h_this, .int ((r_26 + r_28) - r_29)]) ⟨hx, hb, hml, hown, hts⟩ (c_X10_of G _ h_this h_now h_history h_over h_order h_colors h_row h_three h_seen h_group f_edits f_total a_now z_5 z_6 hw) (cwV 2 hts gX10_violation_X10_of rfl rfl rfl (by decide +kernel) ⟨Nat.le_of_ble_eq_true rfl, Nat.le_of_ble_eq_true rfl⟩) (qn_preV hE hP hD [0, 1] hC9 (by decide +kernel) (ci := 10) rfl rfl) rfl rfl hl.1 rfl (lv_room (Nat.le_of_ble_eq_true rfl)) dX10_violation_106 ⟨Nat.le_of_ble_eq_true rfl, Nat.le_of_ble_eq_true rfl⟩) hP hD hS hA hC9 [some 0, some 1] (M := 2) rfl (by decide +kernel) (fun _ => rfl) (fun _ => rfl) (fun r_31 _ H locs hw hP hD hS => ?_)
              try dsimp only at hw
              have hP : va_P G.1 vwCl (wd_X10_violation G h_this h_now h_history h_over h_order h_colors h_row h_three h_seen h_group f_edits f_total a_now) H := hP
              have hD : va_D A (wd_X10_violation G h_this h_now h_history h_over h_order h_colors h_row h_three h_seen h_group f_edits f_total a_now) := hD
              have hC9 : ([0, 1]).map (fun i => (wd_X10_violation G h_this h_now h_history h_over h_order h_colors h_row h_three h_seen h_group f_edits f_total a_now)[i]?) = (wd_X10_weightOf G h_this h_now h_history h_over h_order h_colors h_row h_three h_seen h_group f_edits f_total a_now).map some := rfl
              refine qn_callI (wd := (fun u : Unit => wd_X10_violation G h_this h_now h_history h_over h_order h_colors h_row h_three h_seen h_group f_edits f_total a_now)) [0, 1] (va_runV (As := [.int r_30, .int r_31]) (rest := [.int ((r_26 + r_28) - r_29)]) ⟨hx, hb, hml, hown, hts⟩ (c_X10_weightOf G _ h_this h_now h_history h_over h_order h_colors h_row h_three h_seen h_group f_edits f_total a_now r_30 r_31 hw) (cwV 2 hts gX10_violation_X10_weightOf rfl rfl rfl (by decide +kernel) ⟨Nat.le_of_ble_eq_true rfl, Nat.le_of_ble_eq_true rfl⟩) (qn_preV hE hP hD [0, 1] hC9 (by decide +kernel) (ci := 10) rfl rfl) rfl rfl hl.1 rfl (lv_room (Nat.le_of_ble_eq_true rfl)) dX10_violation_109 ⟨Nat.le_of_ble_eq_true rfl, Nat.le_of_ble_eq_true rfl⟩) hP hD hS hA hC9 [some 0, some 1] (M := 2) rfl (by decide +kernel) (fun _ => rfl) (fun _ => rfl) (fun r_32 _ H locs hw hP hD hS => ?_)
              try dsimp only at hw
              have hP : va_P G.1 vwCl (wd_X10_violation G h_this h_now h_history h_over h_order h_colors h_row h_three h_seen h_group f_edits f_total a_now) H := hP
              have hD : va_D A (wd_X10_violation G h_this h_now h_history h_over h_order h_colors h_row h_three h_seen h_group f_edits f_total a_now) := hD
              refine lv_isub hx hb dX10_violation_112 ?_
              refine lv_aload_n hx hb dX10_violation_113 rfl (lv_at hl 3 rfl) ?_
              refine va_get (D := G.1) (ci := 10) (v := .ref h_now) (C := RX10) (T := TX10) (N := 11) hx hb hts in_X10_violation_X10 hown hE.1 hP 0 rfl rfl 0 (by decide) (hts (.fieldLink RX10 7 "QuandleColoringsModel" "now" "[I") lk_X10_violation_7) (fun _ h9 => h9) rfl dX10_violation_114 ?_
              refine lv_bipush (v := 87) hx hb dX10_violation_117 (by decide) ?_
              have hin := hw.1
              have hw := hw.2
              refine va_iald hx hb hE.1 hP 1 0 rfl rfl hin dX10_violation_119 ?_
              have hne := hw.1
              have hw := hw.2
              refine lv_irem hx hb dX10_violation_120 hne ?_
              refine lv_topi (fun z_33 ez_33 => ?_)
              have hw := hw z_33 ez_33
              refine lv_if_ne (tgt := 128) hx hb dX10_violation_121 (by decide) (fun c_34 => ?_) (fun c_34 => ?_)
              · have hw := hw.1 c_34
                refine lv_iconst (v := 0) hx hb dX10_violation_128 (by decide) ?_
                refine lv_goto (tgt := 174) hx hb dX10_violation_129 (by decide) ?_
                refine lv_istore (lv' := [(7, .int 0), (6, .int z_6), (5, .int z_5), (4, .int z_3), (0, .ref h_this), (1, .int x1), (2, .int x2), (3, .int x3)]) hx hb dX10_violation_174 hl (by decide) rfl (fun ls hl => ?_)
                refine lv_iload hx hb dX10_violation_176 (lv_at hl 0 rfl) ?_
                refine lv_if_ne (tgt := 183) hx hb dX10_violation_178 (by decide) (fun c_35 => ?_) (fun c_35 => ?_)
                · have hw := hw.1 c_35
                  obtain ⟨x3_36, ex3_36⟩ : ∃ y : Int32, y = x3 + 1 := ⟨_, rfl⟩
                  have hw := hw x3_36 ex3_36
                  refine lv_iinc (v := x3_36) (lv' := [(3, .int x3_36), (7, .int 0), (6, .int z_6), (5, .int z_5), (4, .int z_3), (0, .ref h_this), (1, .int x1), (2, .int x2)]) hx hb dX10_violation_183 hl (k := 7) rfl (by rw [ex3_36]; rfl) (by decide) rfl (fun ls hl => ?_)
                  refine lv_goto (tgt := 10) hx hb dX10_violation_186 (by decide) ?_
                  exact ih x3_36 hw _ _ _ hP hD hS (lv_sub hl [5, 6, 7, 0] rfl)
                · have hw := hw.2 c_35
                  refine lv_iload_n hx hb dX10_violation_181 rfl (lv_at hl 7 rfl) ?_
                  exact W.iret (v := x3) hx hb hr (fun t ht hW => ⟨⟨x3, (), rfl, hw, by rw [ht]; exact hP, hD⟩, hS.F ht⟩) hS.2.2 dX10_violation_182
              · have hw := hw.2 c_34
                refine lv_iconst (v := 1) hx hb dX10_violation_124 (by decide) ?_
                refine lv_goto (tgt := 174) hx hb dX10_violation_125 (by decide) ?_
                refine lv_istore (lv' := [(7, .int 1), (6, .int z_6), (5, .int z_5), (4, .int z_3), (0, .ref h_this), (1, .int x1), (2, .int x2), (3, .int x3)]) hx hb dX10_violation_174 hl (by decide) rfl (fun ls hl => ?_)
                refine lv_iload hx hb dX10_violation_176 (lv_at hl 0 rfl) ?_
                refine lv_if_ne (tgt := 183) hx hb dX10_violation_178 (by decide) (fun c_37 => ?_) (fun c_37 => ?_)
                · have hw := hw.1 c_37
                  obtain ⟨x3_38, ex3_38⟩ : ∃ y : Int32, y = x3 + 1 := ⟨_, rfl⟩
                  have hw := hw x3_38 ex3_38
                  refine lv_iinc (v := x3_38) (lv' := [(3, .int x3_38), (7, .int 1), (6, .int z_6), (5, .int z_5), (4, .int z_3), (0, .ref h_this), (1, .int x1), (2, .int x2)]) hx hb dX10_violation_183 hl (k := 7) rfl (by rw [ex3_38]; rfl) (by decide) rfl (fun ls hl => ?_)
                  refine lv_goto (tgt := 10) hx hb dX10_violation_186 (by decide) ?_
                  exact ih x3_38 hw _ _ _ hP hD hS (lv_sub hl [5, 6, 7, 0] rfl)
                · have hw := hw.2 c_37
                  refine lv_iload_n hx hb dX10_violation_181 rfl (lv_at hl 7 rfl) ?_
                  exact W.iret (v := x3) hx hb hr (fun t ht hW => ⟨⟨x3, (), rfl, hw, by rw [ht]; exact hP, hD⟩, hS.F ht⟩) hS.2.2 dX10_violation_182
set_option maxHeartbeats 4000000 in
set_option maxRecDepth 100000 in
theorem c_X10_violation {l : Launch} (G : qn_G) (sz : Nat) (h_this h_now h_history h_over h_order h_colors h_row h_three h_seen h_group : Nat) (f_edits : Int32) (f_total : Int32) (a_now : Nat → Int32) (x1 : Int32) {post : Int32 → Prop} (hw : wp_X10_violation post a_now x1) : Met l yX10_violation wsX10_violation rm_X10_violation (qn_PC G [.ref h_this, .int x1] sz (wd_X10_violation G h_this h_now h_history h_over h_order h_colors h_row h_three h_seen h_group f_edits f_total a_now)) (qn_QI G (fun (r : Int32) (u : Unit) => post r) (fun u : Unit => wd_X10_violation G h_this h_now h_history h_over h_order h_colors h_row h_three h_seen h_group f_edits f_total a_now) (va_A (wd_X10_violation G h_this h_now h_history h_over h_order h_colors h_row h_three h_seen h_group f_edits f_total a_now) sz)) 0 0 (va_A (wd_X10_violation G h_this h_now h_history h_over h_order h_colors h_row h_three h_seen h_group f_edits f_total a_now) sz) := by
  refine Met.ofW (cc := cX10_violation) (maxL := 8) (ret := (some .int)) (by decide) rfl ?_
  intro p e s m args below meth c s₁ B hml hv
  obtain ⟨rfl, hsz, hP, hE, hD0⟩ := hv
  have C0 : qn_C p m c cX10_violation 8 s _ wsX10_violation RX10 meth (some .int) := qn_C0 B hml
  obtain ⟨hx, hb, -, hown, hts, hr, hlocks⟩ := id C0
  subst hsz
  have hD := hD0.self (sz := s.heap.size)
  generalize hAe : va_A (wd_X10_violation G h_this h_now h_history h_over h_order h_colors h_row h_three h_seen h_group f_edits f_total a_now) s.heap.size = A at hD ⊢
  have hA : ∀ q : Nat, s.heap.size ≤ q → A q := fun q h => by rw [← hAe]; exact Or.inr h
  clear hAe
  have hS : va_S A s.heap s.heap [] := va_S.rf
  have hl := lv_entry ([.ref h_this, .int x1]) (n := 8) (Nat.le_of_ble_eq_true rfl)
  rw [lg_entry_eq]
  generalize (lg_sl ([.ref h_this, .int x1]) ++ List.replicate (8 - (lg_sl ([.ref h_this, .int x1])).length) Slot.unset).toArray = ls at hl ⊢
  have hl : lv_has ls 8 [(0, .ref h_this), (1, .int x1)] := hl
  have hP : va_P G.1 vwCl (wd_X10_violation G h_this h_now h_history h_over h_order h_colors h_row h_three h_seen h_group f_edits f_total a_now) s.heap := hP
  refine lv_aload_n hx hb dX10_violation_0 rfl (lv_at hl 0 rfl) ?_
  refine va_get (D := G.1) (ci := 10) (v := .ref h_now) (C := RX10) (T := TX10) (N := 11) hx hb hts in_X10_violation_X10 hown hE.1 hP 0 rfl rfl 0 (by decide) (hts (.fieldLink RX10 7 "QuandleColoringsModel" "now" "[I") lk_X10_violation_7) (fun _ h9 => h9) rfl dX10_violation_1 ?_
  refine lv_bipush (v := 84) hx hb dX10_violation_4 (by decide) ?_
  have hin := hw.1
  have hw := hw.2
  refine va_iald hx hb hE.1 hP 1 0 rfl rfl hin dX10_violation_6 ?_
  refine lv_topi (fun x2_1 ex2_1 => ?_)
  have hw := hw x2_1 ex2_1
  refine lv_istore_n (lv' := [(2, .int x2_1), (0, .ref h_this), (1, .int x1)]) hx hb dX10_violation_7 rfl hl (by decide) rfl (fun ls hl => ?_)
  refine lv_iconst (v := 0) hx hb dX10_violation_8 (by decide) ?_
  refine lv_istore_n (lv' := [(3, .int 0), (2, .int x2_1), (0, .ref h_this), (1, .int x1)]) hx hb dX10_violation_9 rfl hl (by decide) rfl (fun ls hl => ?_)
  obtain ⟨fu_39, hw⟩ := hw
  refine l_X10_violation_10 (post := post) C0 hE hA (fun  hw H locs ls hP hD hS hl => ?_) fu_39 0 hw _ _ _ hP hD hS (lv_sub hl [2, 3, 1, 0] rfl)
  refine lv_bipush (v := (-4)) hx hb dX10_violation_189 (by decide) ?_
  exact W.iret (v := (-4)) hx hb hr (fun t ht hW => ⟨⟨(-4), (), rfl, hw, by rw [ht]; exact hP, hD⟩, hS.F ht⟩) hS.2.2 dX10_violation_191
-- QuandleColoringsModel.distributivityViolation()I
abbrev rm_X10_distributivityViolation : Room := { frames := 2, cells := 0, slots := 0, locals := 49 }
abbrev wd_X10_distributivityViolation (G : qn_G) (h_this h_now h_history h_over h_order h_colors h_row h_three h_seen h_group : Nat) (f_edits : Int32) (f_total : Int32) (a_now : Nat → Int32) : va_W := [(h_this, .inr (10, [.ref h_now, .ref h_history, .int f_edits, .ref h_over, .ref h_order, .ref h_colors, .int f_total, .ref h_row, .ref h_three, .ref h_seen, .ref h_group])), (h_now, .inl (G.2.1, 88, .inl a_now))]
def wp_X10_distributivityViolation (post : Int32 → Prop) (a_now : Nat → Int32) : Prop := (wp_X10_violation (fun (r_1 : Int32) => (post r_1)) a_now 0)
set_option maxHeartbeats 4000000 in
set_option maxRecDepth 100000 in
theorem c_X10_distributivityViolation {l : Launch} (G : qn_G) (sz : Nat) (h_this h_now h_history h_over h_order h_colors h_row h_three h_seen h_group : Nat) (f_edits : Int32) (f_total : Int32) (a_now : Nat → Int32) {post : Int32 → Prop} (hw : wp_X10_distributivityViolation post a_now) : Met l yX10_distributivityViolation wsX10_distributivityViolation rm_X10_distributivityViolation (qn_PC G [.ref h_this] sz (wd_X10_distributivityViolation G h_this h_now h_history h_over h_order h_colors h_row h_three h_seen h_group f_edits f_total a_now)) (qn_QI G (fun (r : Int32) (u : Unit) => post r) (fun u : Unit => wd_X10_distributivityViolation G h_this h_now h_history h_over h_order h_colors h_row h_three h_seen h_group f_edits f_total a_now) (va_A (wd_X10_distributivityViolation G h_this h_now h_history h_over h_order h_colors h_row h_three h_seen h_group f_edits f_total a_now) sz)) 0 0 (va_A (wd_X10_distributivityViolation G h_this h_now h_history h_over h_order h_colors h_row h_three h_seen h_group f_edits f_total a_now) sz) := by
  refine Met.ofW (cc := cX10_distributivityViolation) (maxL := 1) (ret := (some .int)) (by decide) rfl ?_
  intro p e s m args below meth c s₁ B hml hv
  obtain ⟨rfl, hsz, hP, hE, hD0⟩ := hv
  have C0 : qn_C p m c cX10_distributivityViolation 1 s _ wsX10_distributivityViolation RX10 meth (some .int) := qn_C0 B hml
  obtain ⟨hx, hb, -, hown, hts, hr, hlocks⟩ := id C0
  subst hsz
  have hD := hD0.self (sz := s.heap.size)
  generalize hAe : va_A (wd_X10_distributivityViolation G h_this h_now h_history h_over h_order h_colors h_row h_three h_seen h_group f_edits f_total a_now) s.heap.size = A at hD ⊢
  have hA : ∀ q : Nat, s.heap.size ≤ q → A q := fun q h => by rw [← hAe]; exact Or.inr h
  clear hAe
  have hS : va_S A s.heap s.heap [] := va_S.rf
  have hl := lv_entry ([.ref h_this]) (n := 1) (Nat.le_of_ble_eq_true rfl)
  rw [lg_entry_eq]
  generalize (lg_sl ([.ref h_this]) ++ List.replicate (1 - (lg_sl ([.ref h_this])).length) Slot.unset).toArray = ls at hl ⊢
  have hl : lv_has ls 1 [(0, .ref h_this)] := hl
  have hP : va_P G.1 vwCl (wd_X10_distributivityViolation G h_this h_now h_history h_over h_order h_colors h_row h_three h_seen h_group f_edits f_total a_now) s.heap := hP
  refine lv_aload_n hx hb dX10_distributivityViolation_0 rfl (lv_at hl 0 rfl) ?_
  refine lv_iconst (v := 0) hx hb dX10_distributivityViolation_1 (by decide) ?_
  have hC9 : ([0, 1]).map (fun i => (wd_X10_distributivityViolation G h_this h_now h_history h_over h_order h_colors h_row h_three h_seen h_group f_edits f_total a_now)[i]?) = (wd_X10_violation G h_this h_now h_history h_over h_order h_colors h_row h_three h_seen h_group f_edits f_total a_now).map some := rfl
  refine qn_callI (wd := (fun u : Unit => wd_X10_distributivityViolation G h_this h_now h_history h_over h_order h_colors h_row h_three h_seen h_group f_edits f_total a_now)) [0, 1] (va_runV (As := [.int 0]) (rest := []) ⟨hx, hb, hml, hown, hts⟩ (c_X10_violation G _ h_this h_now h_history h_over h_order h_colors h_row h_three h_seen h_group f_edits f_total a_now 0 hw) (cwV 1 hts gX10_distributivityViolation_X10_violation rfl rfl rfl (by decide +kernel) ⟨Nat.le_of_ble_eq_true rfl, Nat.le_of_ble_eq_true rfl⟩) (qn_preV hE hP hD [0, 1] hC9 (by decide +kernel) (ci := 10) rfl rfl) rfl rfl hl.1 rfl (lv_room (Nat.le_of_ble_eq_true rfl)) dX10_distributivityViolation_2 ⟨Nat.le_of_ble_eq_true rfl, Nat.le_of_ble_eq_true rfl⟩) hP hD hS hA hC9 [some 0, some 1] (M := 2) rfl (by decide +kernel) (fun _ => rfl) (fun _ => rfl) (fun r_1 _ H locs hw hP hD hS => ?_)
  try dsimp only at hw
  have hP : va_P G.1 vwCl (wd_X10_distributivityViolation G h_this h_now h_history h_over h_order h_colors h_row h_three h_seen h_group f_edits f_total a_now) H := hP
  have hD : va_D A (wd_X10_distributivityViolation G h_this h_now h_history h_over h_order h_colors h_row h_three h_seen h_group f_edits f_total a_now) := hD
  exact W.iret (v := r_1) hx hb hr (fun t ht hW => ⟨⟨r_1, (), rfl, hw, by rw [ht]; exact hP, hD⟩, hS.F ht⟩) hS.2.2 dX10_distributivityViolation_5
-- QuandleColoringsModel.idempotencyViolation()I
abbrev rm_X10_idempotencyViolation : Room := { frames := 1, cells := 0, slots := 0, locals := 22 }
abbrev wd_X10_idempotencyViolation (G : qn_G) (h_this h_now h_history h_over h_order h_colors h_row h_three h_seen h_group : Nat) (f_edits : Int32) (f_total : Int32) (a_now : Nat → Int32) : va_W := [(h_this, .inr (10, [.ref h_now, .ref h_history, .int f_edits, .ref h_over, .ref h_order, .ref h_colors, .int f_total, .ref h_row, .ref h_three, .ref h_seen, .ref h_group])), (h_now, .inl (G.2.1, 88, .inl a_now))]
theorem in_X10_idempotencyViolation_X10 : ∀ w ∈ u_ws RX10 TX10 11, w ∈ wsX10_idempotencyViolation := by decide +kernel
theorem lk_X10_idempotencyViolation_7 : Cond.fieldLink RX10 7 "QuandleColoringsModel" "now" "[I" ∈ wsX10_idempotencyViolation := by decide +kernel
def wp_X10_idempotencyViolation_L2 (KL2 : Int32 → Prop) (a_now : Nat → Int32) : Nat → Int32 → Prop
  | 0 => fun _ => False
  | fu + 1 => fun x1 => (vp_in 84 88 ∧ (((a_now (84 : Int32).toNatClampNeg) ≤ x1 → (KL2 x1)) ∧ (¬ (a_now (84 : Int32).toNatClampNeg) ≤ x1 → (wp_X10_of (fun (r_2 : Int32) => ((¬ r_2 = x1 → (KL2 x1)) ∧ (r_2 = x1 → (∀ x1_4 : Int32, x1_4 = x1 + 1 → ((wp_X10_idempotencyViolation_L2 KL2 a_now fu) x1_4))))) a_now x1 x1))))
def wp_X10_idempotencyViolation_J29 (post : Int32 → Prop) (x1 : Int32) (a_now : Nat → Int32) : Prop := (vp_in 84 88 ∧ (((a_now (84 : Int32).toNatClampNeg) ≤ x1 → (post (-4))) ∧ (¬ (a_now (84 : Int32).toNatClampNeg) ≤ x1 → (post x1))))
def wp_X10_idempotencyViolation (post : Int32 → Prop) (a_now : Nat → Int32) : Prop := (∃ fu_8 : Nat, wp_X10_idempotencyViolation_L2 (fun (x1_5 : Int32) => (wp_X10_idempotencyViolation_J29 post x1_5 a_now)) a_now fu_8 0)
set_option maxHeartbeats 4000000 in
set_option maxRecDepth 100000 in
theorem l_X10_idempotencyViolation_2 {p : Program} {l : Launch} {e : Env} {s : State} {m : MethodId} {args : Array Value} {below : List Frame} {meth : Method} {c : Code} {G : qn_G} {A : Nat → Prop} {h_this h_now h_history h_over h_order h_colors h_row h_three h_seen h_group : Nat} {f_edits : Int32} {f_total : Int32} {a_now : Nat → Int32} {post : Int32 → Prop} {KL2 : Int32 → Prop} (C0 : qn_C p m c cX10_idempotencyViolation 2 s args wsX10_idempotencyViolation RX10 meth (some .int)) (hE : qn_EV G s) (hA : ∀ q, s.heap.size ≤ q → A q) (hKc : ∀ (x1 : Int32), KL2 x1 → ∀ (H : Heap) (locs : List Loc) (ls : Array Slot), va_P G.1 vwCl (wd_X10_idempotencyViolation G h_this h_now h_history h_over h_order h_colors h_row h_three h_seen h_group f_edits f_total a_now) H → va_D A (wd_X10_idempotencyViolation G h_this h_now h_history h_over h_order h_colors h_row h_three h_seen h_group f_edits f_total a_now) → va_S A s.heap H locs → lv_has ls 2 [(0, .ref h_this), (1, .int x1)] → W p l e (headSpec wsX10_idempotencyViolation rm_X10_idempotencyViolation).room s m args below meth c H locs 0 0 (MQ below (qn_QI G (fun (r : Int32) (u : Unit) => post r) (fun u : Unit => wd_X10_idempotencyViolation G h_this h_now h_history h_over h_order h_colors h_row h_three h_seen h_group f_edits f_total a_now) A) args s 0 0 A) (F0 m 29 ls [])) :
    ∀ (fu : Nat) (x1 : Int32), wp_X10_idempotencyViolation_L2 KL2 a_now fu x1 → ∀ (H : Heap) (locs : List Loc) (ls : Array Slot), va_P G.1 vwCl (wd_X10_idempotencyViolation G h_this h_now h_history h_over h_order h_colors h_row h_three h_seen h_group f_edits f_total a_now) H → va_D A (wd_X10_idempotencyViolation G h_this h_now h_history h_over h_order h_colors h_row h_three h_seen h_group f_edits f_total a_now) → va_S A s.heap H locs → lv_has ls 2 [(0, .ref h_this), (1, .int x1)] → W p l e (headSpec wsX10_idempotencyViolation rm_X10_idempotencyViolation).room s m args below meth c H locs 0 0 (MQ below (qn_QI G (fun (r : Int32) (u : Unit) => post r) (fun u : Unit => wd_X10_idempotencyViolation G h_this h_now h_history h_over h_order h_colors h_row h_three h_seen h_group f_edits f_total a_now) A) args s 0 0 A) (F0 m 2 ls []) := by
  obtain ⟨hx, hb, hml, hown, hts, hr, hlocks⟩ := id C0
  intro fu
  induction fu with
  | zero => intro x1 hw; exact hw.elim
  | succ fu ih =>
    intro x1 hw H locs ls hP hD hS hl
    refine lv_iload_n hx hb dX10_idempotencyViolation_2 rfl (lv_at hl 1 rfl) ?_
    refine lv_aload_n hx hb dX10_idempotencyViolation_3 rfl (lv_at hl 0 rfl) ?_
    refine va_get (D := G.1) (ci := 10) (v := .ref h_now) (C := RX10) (T := TX10) (N := 11) hx hb hts in_X10_idempotencyViolation_X10 hown hE.1 hP 0 rfl rfl 0 (by decide) (hts (.fieldLink RX10 7 "QuandleColoringsModel" "now" "[I") lk_X10_idempotencyViolation_7) (fun _ h9 => h9) rfl dX10_idempotencyViolation_4 ?_
    refine lv_bipush (v := 84) hx hb dX10_idempotencyViolation_7 (by decide) ?_
    have hin := hw.1
    have hw := hw.2
    refine va_iald hx hb hE.1 hP 1 0 rfl rfl hin dX10_idempotencyViolation_9 ?_
    refine lv_icmp_ge (tgt := 29) hx hb dX10_idempotencyViolation_10 (by decide) (fun c_1 => ?_) (fun c_1 => ?_)
    · have hw := hw.1 c_1
      exact hKc x1 hw _ _ _ hP hD hS (lv_sub hl [0, 1] rfl)
    · have hw := hw.2 c_1
      refine lv_aload_n hx hb dX10_idempotencyViolation_13 rfl (lv_at hl 0 rfl) ?_
      refine lv_iload_n hx hb dX10_idempotencyViolation_14 rfl (lv_at hl 1 rfl) ?_
      refine lv_iload_n hx hb dX10_idempotencyViolation_15 rfl (lv_at hl 1 rfl) ?_
      have hC9 : ([0, 1]).map (fun i => (wd_X10_idempotencyViolation G h_this h_now h_history h_over h_order h_colors h_row h_three h_seen h_group f_edits f_total a_now)[i]?) = (wd_X10_of G h_this h_now h_history h_over h_order h_colors h_row h_three h_seen h_group f_edits f_total a_now).map some := rfl
      refine qn_callI (wd := (fun u : Unit => wd_X10_idempotencyViolation G h_this h_now h_history h_over h_order h_colors h_row h_three h_seen h_group f_edits f_total a_now)) [0, 1] (va_runV (As := [.int x1, .int x1]) (rest := []) ⟨hx, hb, hml, hown, hts⟩ (c_X10_of G _ h_this h_now h_history h_over h_order h_colors h_row h_three h_seen h_group f_edits f_total a_now x1 x1 hw) (cwV 2 hts gX10_idempotencyViolation_X10_of rfl rfl rfl (by decide +kernel) ⟨Nat.le_of_ble_eq_true rfl, Nat.le_of_ble_eq_true rfl⟩) (qn_preV hE hP hD [0, 1] hC9 (by decide +kernel) (ci := 10) rfl rfl) rfl rfl hl.1 rfl (lv_room (Nat.le_of_ble_eq_true rfl)) dX10_idempotencyViolation_16 ⟨Nat.le_of_ble_eq_true rfl, Nat.le_of_ble_eq_true rfl⟩) hP hD hS hA hC9 [some 0, some 1] (M := 2) rfl (by decide +kernel) (fun _ => rfl) (fun _ => rfl) (fun r_2 _ H locs hw hP hD hS => ?_)
      try dsimp only at hw
      have hP : va_P G.1 vwCl (wd_X10_idempotencyViolation G h_this h_now h_history h_over h_order h_colors h_row h_three h_seen h_group f_edits f_total a_now) H := hP
      have hD : va_D A (wd_X10_idempotencyViolation G h_this h_now h_history h_over h_order h_colors h_row h_three h_seen h_group f_edits f_total a_now) := hD
      refine lv_iload_n hx hb dX10_idempotencyViolation_19 rfl (lv_at hl 1 rfl) ?_
      refine lv_icmp_ne (tgt := 29) hx hb dX10_idempotencyViolation_20 (by decide) (fun c_3 => ?_) (fun c_3 => ?_)
      · have hw := hw.1 c_3
        exact hKc x1 hw _ _ _ hP hD hS (lv_sub hl [0, 1] rfl)
      · have hw := hw.2 c_3
        obtain ⟨x1_4, ex1_4⟩ : ∃ y : Int32, y = x1 + 1 := ⟨_, rfl⟩
        have hw := hw x1_4 ex1_4
        refine lv_iinc (v := x1_4) (lv' := [(1, .int x1_4), (0, .ref h_this)]) hx hb dX10_idempotencyViolation_23 hl (k := 1) rfl (by rw [ex1_4]; rfl) (by decide) rfl (fun ls hl => ?_)
        refine lv_goto (tgt := 2) hx hb dX10_idempotencyViolation_26 (by decide) ?_
        exact ih x1_4 hw _ _ _ hP hD hS (lv_sub hl [1, 0] rfl)
set_option maxHeartbeats 4000000 in
set_option maxRecDepth 100000 in
theorem c_X10_idempotencyViolation {l : Launch} (G : qn_G) (sz : Nat) (h_this h_now h_history h_over h_order h_colors h_row h_three h_seen h_group : Nat) (f_edits : Int32) (f_total : Int32) (a_now : Nat → Int32) {post : Int32 → Prop} (hw : wp_X10_idempotencyViolation post a_now) : Met l yX10_idempotencyViolation wsX10_idempotencyViolation rm_X10_idempotencyViolation (qn_PC G [.ref h_this] sz (wd_X10_idempotencyViolation G h_this h_now h_history h_over h_order h_colors h_row h_three h_seen h_group f_edits f_total a_now)) (qn_QI G (fun (r : Int32) (u : Unit) => post r) (fun u : Unit => wd_X10_idempotencyViolation G h_this h_now h_history h_over h_order h_colors h_row h_three h_seen h_group f_edits f_total a_now) (va_A (wd_X10_idempotencyViolation G h_this h_now h_history h_over h_order h_colors h_row h_three h_seen h_group f_edits f_total a_now) sz)) 0 0 (va_A (wd_X10_idempotencyViolation G h_this h_now h_history h_over h_order h_colors h_row h_three h_seen h_group f_edits f_total a_now) sz) := by
  refine Met.ofW (cc := cX10_idempotencyViolation) (maxL := 2) (ret := (some .int)) (by decide) rfl ?_
  intro p e s m args below meth c s₁ B hml hv
  obtain ⟨rfl, hsz, hP, hE, hD0⟩ := hv
  have C0 : qn_C p m c cX10_idempotencyViolation 2 s _ wsX10_idempotencyViolation RX10 meth (some .int) := qn_C0 B hml
  obtain ⟨hx, hb, -, hown, hts, hr, hlocks⟩ := id C0
  subst hsz
  have hD := hD0.self (sz := s.heap.size)
  generalize hAe : va_A (wd_X10_idempotencyViolation G h_this h_now h_history h_over h_order h_colors h_row h_three h_seen h_group f_edits f_total a_now) s.heap.size = A at hD ⊢
  have hA : ∀ q : Nat, s.heap.size ≤ q → A q := fun q h => by rw [← hAe]; exact Or.inr h
  clear hAe
  have hS : va_S A s.heap s.heap [] := va_S.rf
  have hl := lv_entry ([.ref h_this]) (n := 2) (Nat.le_of_ble_eq_true rfl)
  rw [lg_entry_eq]
  generalize (lg_sl ([.ref h_this]) ++ List.replicate (2 - (lg_sl ([.ref h_this])).length) Slot.unset).toArray = ls at hl ⊢
  have hl : lv_has ls 2 [(0, .ref h_this)] := hl
  have hP : va_P G.1 vwCl (wd_X10_idempotencyViolation G h_this h_now h_history h_over h_order h_colors h_row h_three h_seen h_group f_edits f_total a_now) s.heap := hP
  refine lv_iconst (v := 0) hx hb dX10_idempotencyViolation_0 (by decide) ?_
  refine lv_istore_n (lv' := [(1, .int 0), (0, .ref h_this)]) hx hb dX10_idempotencyViolation_1 rfl hl (by decide) rfl (fun ls hl => ?_)
  obtain ⟨fu_8, hw⟩ := hw
  refine l_X10_idempotencyViolation_2 (post := post) C0 hE hA (fun x1_5 hw H locs ls hP hD hS hl => ?_) fu_8 0 hw _ _ _ hP hD hS (lv_sub hl [1, 0] rfl)
  refine lv_iload_n hx hb dX10_idempotencyViolation_29 rfl (lv_at hl 1 rfl) ?_
  refine lv_aload_n hx hb dX10_idempotencyViolation_30 rfl (lv_at hl 0 rfl) ?_
  refine va_get (D := G.1) (ci := 10) (v := .ref h_now) (C := RX10) (T := TX10) (N := 11) hx hb hts in_X10_idempotencyViolation_X10 hown hE.1 hP 0 rfl rfl 0 (by decide) (hts (.fieldLink RX10 7 "QuandleColoringsModel" "now" "[I") lk_X10_idempotencyViolation_7) (fun _ h9 => h9) rfl dX10_idempotencyViolation_31 ?_
  refine lv_bipush (v := 84) hx hb dX10_idempotencyViolation_34 (by decide) ?_
  have hin := hw.1
  have hw := hw.2
  refine va_iald hx hb hE.1 hP 1 0 rfl rfl hin dX10_idempotencyViolation_36 ?_
  refine lv_icmp_ge (tgt := 44) hx hb dX10_idempotencyViolation_37 (by decide) (fun c_7 => ?_) (fun c_7 => ?_)
  · have hw := hw.1 c_7
    refine lv_bipush (v := (-4)) hx hb dX10_idempotencyViolation_44 (by decide) ?_
    exact W.iret (v := (-4)) hx hb hr (fun t ht hW => ⟨⟨(-4), (), rfl, hw, by rw [ht]; exact hP, hD⟩, hS.F ht⟩) hS.2.2 dX10_idempotencyViolation_46
  · have hw := hw.2 c_7
    refine lv_iload_n hx hb dX10_idempotencyViolation_40 rfl (lv_at hl 1 rfl) ?_
    refine lv_goto (tgt := 46) hx hb dX10_idempotencyViolation_41 (by decide) ?_
    exact W.iret (v := x1_5) hx hb hr (fun t ht hW => ⟨⟨x1_5, (), rfl, hw, by rw [ht]; exact hP, hD⟩, hS.F ht⟩) hS.2.2 dX10_idempotencyViolation_46
-- QuandleColoringsModel.kind()I
abbrev rm_X10_kind : Room := { frames := 2, cells := 0, slots := 0, locals := 49 }
abbrev wd_X10_kind (G : qn_G) (h_this h_now h_history h_over h_order h_colors h_row h_three h_seen h_group : Nat) (f_edits : Int32) (f_total : Int32) (a_now : Nat → Int32) (a_over : Nat → Int32) : va_W := [(h_this, .inr (10, [.ref h_now, .ref h_history, .int f_edits, .ref h_over, .ref h_order, .ref h_colors, .int f_total, .ref h_row, .ref h_three, .ref h_seen, .ref h_group])), (h_now, .inl (G.2.1, 88, .inl a_now)), (h_over, .inl (G.2.1, 36, .inl a_over))]
def wp_X10_kind (post : Int32 → (Nat → Int32) → Prop) (a_now : Nat → Int32) (a_over : Nat → Int32) : Prop := (wp_X10_column (fun (r_2 : Int32) (a_over_1 : Nat → Int32) => ((¬ r_2 = (-4) → (post 0 a_over_1)) ∧ (r_2 = (-4) → (wp_X10_violation (fun (r_4 : Int32) => ((r_4 = (-4) → (wp_X10_idempotencyViolation (fun (r_6 : Int32) => ((¬ r_6 = (-4) → (post 1 a_over_1)) ∧ (r_6 = (-4) → (post 2 a_over_1)))) a_now)) ∧ (¬ r_4 = (-4) → (post 0 a_over_1)))) a_now 0)))) a_now a_over)
set_option maxHeartbeats 4000000 in
set_option maxRecDepth 100000 in
theorem c_X10_kind {l : Launch} (G : qn_G) (sz : Nat) (h_this h_now h_history h_over h_order h_colors h_row h_three h_seen h_group : Nat) (f_edits : Int32) (f_total : Int32) (a_now : Nat → Int32) (a_over : Nat → Int32) {post : Int32 → (Nat → Int32) → Prop} (hw : wp_X10_kind post a_now a_over) : Met l yX10_kind wsX10_kind rm_X10_kind (qn_PC G [.ref h_this] sz (wd_X10_kind G h_this h_now h_history h_over h_order h_colors h_row h_three h_seen h_group f_edits f_total a_now a_over)) (qn_QI G (fun (r : Int32) (u : (Nat → Int32)) => post r u) (fun u : (Nat → Int32) => wd_X10_kind G h_this h_now h_history h_over h_order h_colors h_row h_three h_seen h_group f_edits f_total a_now u) (va_A (wd_X10_kind G h_this h_now h_history h_over h_order h_colors h_row h_three h_seen h_group f_edits f_total a_now a_over) sz)) 0 0 (va_A (wd_X10_kind G h_this h_now h_history h_over h_order h_colors h_row h_three h_seen h_group f_edits f_total a_now a_over) sz) := by
  refine Met.ofW (cc := cX10_kind) (maxL := 1) (ret := (some .int)) (by decide) rfl ?_
  intro p e s m args below meth c s₁ B hml hv
  obtain ⟨rfl, hsz, hP, hE, hD0⟩ := hv
  have C0 : qn_C p m c cX10_kind 1 s _ wsX10_kind RX10 meth (some .int) := qn_C0 B hml
  obtain ⟨hx, hb, -, hown, hts, hr, hlocks⟩ := id C0
  subst hsz
  have hD := hD0.self (sz := s.heap.size)
  generalize hAe : va_A (wd_X10_kind G h_this h_now h_history h_over h_order h_colors h_row h_three h_seen h_group f_edits f_total a_now a_over) s.heap.size = A at hD ⊢
  have hA : ∀ q : Nat, s.heap.size ≤ q → A q := fun q h => by rw [← hAe]; exact Or.inr h
  clear hAe
  have hS : va_S A s.heap s.heap [] := va_S.rf
  have hl := lv_entry ([.ref h_this]) (n := 1) (Nat.le_of_ble_eq_true rfl)
  rw [lg_entry_eq]
  generalize (lg_sl ([.ref h_this]) ++ List.replicate (1 - (lg_sl ([.ref h_this])).length) Slot.unset).toArray = ls at hl ⊢
  have hl : lv_has ls 1 [(0, .ref h_this)] := hl
  have hP : va_P G.1 vwCl (wd_X10_kind G h_this h_now h_history h_over h_order h_colors h_row h_three h_seen h_group f_edits f_total a_now a_over) s.heap := hP
  refine lv_aload_n hx hb dX10_kind_0 rfl (lv_at hl 0 rfl) ?_
  have hC9 : ([0, 1, 2]).map (fun i => (wd_X10_kind G h_this h_now h_history h_over h_order h_colors h_row h_three h_seen h_group f_edits f_total a_now a_over)[i]?) = (wd_X10_column G h_this h_now h_history h_over h_order h_colors h_row h_three h_seen h_group f_edits f_total a_now a_over).map some := rfl
  refine qn_callI (wd := (fun u : (Nat → Int32) => wd_X10_kind G h_this h_now h_history h_over h_order h_colors h_row h_three h_seen h_group f_edits f_total a_now u)) [0, 1, 2] (va_runV (As := []) (rest := []) ⟨hx, hb, hml, hown, hts⟩ (c_X10_column G _ h_this h_now h_history h_over h_order h_colors h_row h_three h_seen h_group f_edits f_total a_now a_over hw) (cwV 0 hts gX10_kind_X10_column rfl rfl rfl (by decide +kernel) ⟨Nat.le_of_ble_eq_true rfl, Nat.le_of_ble_eq_true rfl⟩) (qn_preV hE hP hD [0, 1, 2] hC9 (by decide +kernel) (ci := 10) rfl rfl) rfl rfl hl.1 rfl (lv_room (Nat.le_of_ble_eq_true rfl)) dX10_kind_1 ⟨Nat.le_of_ble_eq_true rfl, Nat.le_of_ble_eq_true rfl⟩) hP hD hS hA hC9 [some 0, some 1, some 2] (M := 3) rfl (by decide +kernel) (fun _ => rfl) (fun _ => rfl) (fun r_2 a_over_1 H locs hw hP hD hS => ?_)
  try dsimp only at hw
  have hP : va_P G.1 vwCl (wd_X10_kind G h_this h_now h_history h_over h_order h_colors h_row h_three h_seen h_group f_edits f_total a_now a_over_1) H := hP
  have hD : va_D A (wd_X10_kind G h_this h_now h_history h_over h_order h_colors h_row h_three h_seen h_group f_edits f_total a_now a_over_1) := hD
  refine lv_bipush (v := (-4)) hx hb dX10_kind_4 (by decide) ?_
  refine lv_icmp_ne (tgt := 19) hx hb dX10_kind_6 (by decide) (fun c_3 => ?_) (fun c_3 => ?_)
  · have hw := hw.1 c_3
    refine lv_iconst (v := 0) hx hb dX10_kind_19 (by decide) ?_
    exact W.iret (v := 0) hx hb hr (fun t ht hW => ⟨⟨0, a_over_1, rfl, hw, by rw [ht]; exact hP, hD⟩, hS.F ht⟩) hS.2.2 dX10_kind_20
  · have hw := hw.2 c_3
    refine lv_aload_n hx hb dX10_kind_9 rfl (lv_at hl 0 rfl) ?_
    refine lv_iconst (v := 0) hx hb dX10_kind_10 (by decide) ?_
    have hC9 : ([0, 1]).map (fun i => (wd_X10_kind G h_this h_now h_history h_over h_order h_colors h_row h_three h_seen h_group f_edits f_total a_now a_over_1)[i]?) = (wd_X10_violation G h_this h_now h_history h_over h_order h_colors h_row h_three h_seen h_group f_edits f_total a_now).map some := rfl
    refine qn_callI (wd := (fun u : Unit => wd_X10_kind G h_this h_now h_history h_over h_order h_colors h_row h_three h_seen h_group f_edits f_total a_now a_over_1)) [0, 1] (va_runV (As := [.int 0]) (rest := []) ⟨hx, hb, hml, hown, hts⟩ (c_X10_violation G _ h_this h_now h_history h_over h_order h_colors h_row h_three h_seen h_group f_edits f_total a_now 0 hw) (cwV 1 hts gX10_kind_X10_violation rfl rfl rfl (by decide +kernel) ⟨Nat.le_of_ble_eq_true rfl, Nat.le_of_ble_eq_true rfl⟩) (qn_preV hE hP hD [0, 1] hC9 (by decide +kernel) (ci := 10) rfl rfl) rfl rfl hl.1 rfl (lv_room (Nat.le_of_ble_eq_true rfl)) dX10_kind_11 ⟨Nat.le_of_ble_eq_true rfl, Nat.le_of_ble_eq_true rfl⟩) hP hD hS hA hC9 [some 0, some 1, none] (M := 3) rfl (by decide +kernel) (fun _ => rfl) (fun _ => rfl) (fun r_4 _ H locs hw hP hD hS => ?_)
    try dsimp only at hw
    have hP : va_P G.1 vwCl (wd_X10_kind G h_this h_now h_history h_over h_order h_colors h_row h_three h_seen h_group f_edits f_total a_now a_over_1) H := hP
    have hD : va_D A (wd_X10_kind G h_this h_now h_history h_over h_order h_colors h_row h_three h_seen h_group f_edits f_total a_now a_over_1) := hD
    refine lv_bipush (v := (-4)) hx hb dX10_kind_14 (by decide) ?_
    refine lv_icmp_eq (tgt := 21) hx hb dX10_kind_16 (by decide) (fun c_5 => ?_) (fun c_5 => ?_)
    · have hw := hw.1 c_5
      refine lv_aload_n hx hb dX10_kind_21 rfl (lv_at hl 0 rfl) ?_
      have hC9 : ([0, 1]).map (fun i => (wd_X10_kind G h_this h_now h_history h_over h_order h_colors h_row h_three h_seen h_group f_edits f_total a_now a_over_1)[i]?) = (wd_X10_idempotencyViolation G h_this h_now h_history h_over h_order h_colors h_row h_three h_seen h_group f_edits f_total a_now).map some := rfl
      refine qn_callI (wd := (fun u : Unit => wd_X10_kind G h_this h_now h_history h_over h_order h_colors h_row h_three h_seen h_group f_edits f_total a_now a_over_1)) [0, 1] (va_runV (As := []) (rest := []) ⟨hx, hb, hml, hown, hts⟩ (c_X10_idempotencyViolation G _ h_this h_now h_history h_over h_order h_colors h_row h_three h_seen h_group f_edits f_total a_now hw) (cwV 0 hts gX10_kind_X10_idempotencyViolation rfl rfl rfl (by decide +kernel) ⟨Nat.le_of_ble_eq_true rfl, Nat.le_of_ble_eq_true rfl⟩) (qn_preV hE hP hD [0, 1] hC9 (by decide +kernel) (ci := 10) rfl rfl) rfl rfl hl.1 rfl (lv_room (Nat.le_of_ble_eq_true rfl)) dX10_kind_22 ⟨Nat.le_of_ble_eq_true rfl, Nat.le_of_ble_eq_true rfl⟩) hP hD hS hA hC9 [some 0, some 1, none] (M := 3) rfl (by decide +kernel) (fun _ => rfl) (fun _ => rfl) (fun r_6 _ H locs hw hP hD hS => ?_)
      try dsimp only at hw
      have hP : va_P G.1 vwCl (wd_X10_kind G h_this h_now h_history h_over h_order h_colors h_row h_three h_seen h_group f_edits f_total a_now a_over_1) H := hP
      have hD : va_D A (wd_X10_kind G h_this h_now h_history h_over h_order h_colors h_row h_three h_seen h_group f_edits f_total a_now a_over_1) := hD
      refine lv_bipush (v := (-4)) hx hb dX10_kind_25 (by decide) ?_
      refine lv_icmp_ne (tgt := 34) hx hb dX10_kind_27 (by decide) (fun c_7 => ?_) (fun c_7 => ?_)
      · have hw := hw.1 c_7
        refine lv_iconst (v := 1) hx hb dX10_kind_34 (by decide) ?_
        exact W.iret (v := 1) hx hb hr (fun t ht hW => ⟨⟨1, a_over_1, rfl, hw, by rw [ht]; exact hP, hD⟩, hS.F ht⟩) hS.2.2 dX10_kind_35
      · have hw := hw.2 c_7
        refine lv_iconst (v := 2) hx hb dX10_kind_30 (by decide) ?_
        refine lv_goto (tgt := 35) hx hb dX10_kind_31 (by decide) ?_
        exact W.iret (v := 2) hx hb hr (fun t ht hW => ⟨⟨2, a_over_1, rfl, hw, by rw [ht]; exact hP, hD⟩, hS.F ht⟩) hS.2.2 dX10_kind_35
    · have hw := hw.2 c_5
      refine lv_iconst (v := 0) hx hb dX10_kind_19 (by decide) ?_
      exact W.iret (v := 0) hx hb hr (fun t ht hW => ⟨⟨0, a_over_1, rfl, hw, by rw [ht]; exact hP, hD⟩, hS.F ht⟩) hS.2.2 dX10_kind_20
-- QuandleColoringsModel.orbit(I)I
abbrev rm_X10_orbit : Room := { frames := 2, cells := 0, slots := 0, locals := 43 }
abbrev wd_X10_orbit (G : qn_G) (h_this h_now h_history h_over h_order h_colors h_row h_three h_seen h_group : Nat) (f_edits : Int32) (f_total : Int32) (a_now : Nat → Int32) (a_over : Nat → Int32) : va_W := [(h_this, .inr (10, [.ref h_now, .ref h_history, .int f_edits, .ref h_over, .ref h_order, .ref h_colors, .int f_total, .ref h_row, .ref h_three, .ref h_seen, .ref h_group])), (h_now, .inl (G.2.1, 88, .inl a_now)), (h_over, .inl (G.2.1, 36, .inl a_over))]
theorem in_X10_orbit_X10 : ∀ w ∈ u_ws RX10 TX10 11, w ∈ wsX10_orbit := by decide +kernel
theorem lk_X10_orbit_16 : Cond.fieldLink RX10 16 "QuandleColoringsModel" "over" "[I" ∈ wsX10_orbit := by decide +kernel
theorem lk_X10_orbit_7 : Cond.fieldLink RX10 7 "QuandleColoringsModel" "now" "[I" ∈ wsX10_orbit := by decide +kernel
def wp_X10_orbit_L59 (KL59 : Int32 → Prop) (x2 : Int32) (x4 : Int32) (x5 : Int32) (a_now : Nat → Int32) (a_over : Nat → Int32) : Nat → Int32 → Int32 → Prop
  | 0 => fun _ _ => False
  | fu + 1 => fun x3 x6 => (vp_in 84 88 ∧ (((a_now (84 : Int32).toNatClampNeg) ≤ x6 → (KL59 x3)) ∧ (¬ (a_now (84 : Int32).toNatClampNeg) ≤ x6 → ((¬ ((x4 >>> (x5 &&& 31)) &&& 1) = 1 → (KL59 x3)) ∧ (((x4 >>> (x5 &&& 31)) &&& 1) = 1 → (wp_X10_of (fun (r_11 : Int32) => ((x2 = 0 → (∀ x3_13 : Int32, x3_13 = x3 ||| ((1 <<< (r_11 &&& 31)) ||| 0) → (∀ x6_14 : Int32, x6_14 = x6 + 1 → ((wp_X10_orbit_L59 KL59 x2 x4 x5 a_now a_over fu) x3_13 x6_14)))) ∧ (¬ x2 = 0 → (vp_in ((6 * x5) + x6) 36 ∧ (∀ x3_15 : Int32, x3_15 = x3 ||| ((1 <<< (r_11 &&& 31)) ||| (1 <<< ((a_over ((6 * x5) + x6).toNatClampNeg) &&& 31))) → (∀ x6_16 : Int32, x6_16 = x6 + 1 → ((wp_X10_orbit_L59 KL59 x2 x4 x5 a_now a_over fu) x3_15 x6_16))))))) a_now x5 x6))))))
def wp_X10_orbit_L44 (KL44 : Int32 → Prop) (x2 : Int32) (x4 : Int32) (a_now : Nat → Int32) (a_over : Nat → Int32) : Nat → Int32 → Int32 → Prop
  | 0 => fun _ _ => False
  | fu + 1 => fun x3 x5 => (vp_in 84 88 ∧ (((a_now (84 : Int32).toNatClampNeg) ≤ x5 → (KL44 x3)) ∧ (¬ (a_now (84 : Int32).toNatClampNeg) ≤ x5 → (∃ fu_19 : Nat, wp_X10_orbit_L59 (fun (x3_17 : Int32) => (∀ x5_18 : Int32, x5_18 = x5 + 1 → ((wp_X10_orbit_L44 KL44 x2 x4 a_now a_over fu) x3_17 x5_18))) x2 x4 x5 a_now a_over fu_19 x3 0))))
def wp_X10_orbit_L32 (KL32 : Int32 → Prop) (x2 : Int32) (a_now : Nat → Int32) (a_over : Nat → Int32) : Nat → Int32 → Int32 → Prop
  | 0 => fun _ _ => False
  | fu + 1 => fun x3 x4 => ((x4 = x3 → (KL32 x3)) ∧ (¬ x4 = x3 → (∃ fu_21 : Nat, wp_X10_orbit_L44 (fun (x3_20 : Int32) => ((wp_X10_orbit_L32 KL32 x2 a_now a_over fu) x3_20 x3)) x2 x3 a_now a_over fu_21 x3 0)))
def wp_X10_orbit_J24 (post : Int32 → (Nat → Int32) → Prop) (x1 : Int32) (z0 : Int32) (a_now : Nat → Int32) (a_over : Nat → Int32) : Prop := (∀ x3_6 : Int32, x3_6 = 1 <<< (x1 &&& 31) → (∃ fu_23 : Nat, wp_X10_orbit_L32 (fun (x3_22 : Int32) => (post x3_22 a_over)) z0 a_now a_over fu_23 x3_6 0))
def wp_X10_orbit (post : Int32 → (Nat → Int32) → Prop) (a_now : Nat → Int32) (a_over : Nat → Int32) (x1 : Int32) : Prop := (wp_X10_isElement (fun (r_1 : Int32) => ((¬ r_1 = 0 → (wp_X10_column (fun (r_4 : Int32) (a_over_3 : Nat → Int32) => ((¬ r_4 = (-4) → (wp_X10_orbit_J24 post x1 0 a_now a_over_3)) ∧ (r_4 = (-4) → (wp_X10_orbit_J24 post x1 1 a_now a_over_3)))) a_now a_over)) ∧ (r_1 = 0 → (post (-1) a_over)))) a_now x1)
set_option maxHeartbeats 4000000 in
set_option maxRecDepth 100000 in
theorem l_X10_orbit_59 {p : Program} {l : Launch} {e : Env} {s : State} {m : MethodId} {args : Array Value} {below : List Frame} {meth : Method} {c : Code} {G : qn_G} {A : Nat → Prop} {h_this h_now h_history h_over h_order h_colors h_row h_three h_seen h_group : Nat} {f_edits : Int32} {f_total : Int32} {a_now : Nat → Int32} {a_over : Nat → Int32} {x2 : Int32} {x4 : Int32} {x5 : Int32} {post : Int32 → (Nat → Int32) → Prop} {KL59 : Int32 → Prop} (C0 : qn_C p m c cX10_orbit 7 s args wsX10_orbit RX10 meth (some .int)) (hE : qn_EV G s) (hA : ∀ q, s.heap.size ≤ q → A q) (hKc : ∀ (x3 : Int32), KL59 x3 → ∀ (H : Heap) (locs : List Loc) (ls : Array Slot), va_P G.1 vwCl (wd_X10_orbit G h_this h_now h_history h_over h_order h_colors h_row h_three h_seen h_group f_edits f_total a_now a_over) H → va_D A (wd_X10_orbit G h_this h_now h_history h_over h_order h_colors h_row h_three h_seen h_group f_edits f_total a_now a_over) → va_S A s.heap H locs → lv_has ls 7 [(0, .ref h_this), (2, .int x2), (3, .int x3), (4, .int x4), (5, .int x5)] → W p l e (headSpec wsX10_orbit rm_X10_orbit).room s m args below meth c H locs 0 0 (MQ below (qn_QI G (fun (r : Int32) (u : (Nat → Int32)) => post r u) (fun u : (Nat → Int32) => wd_X10_orbit G h_this h_now h_history h_over h_order h_colors h_row h_three h_seen h_group f_edits f_total a_now u) A) args s 0 0 A) (F0 m 125 ls [])) :
    ∀ (fu : Nat) (x3 : Int32) (x6 : Int32), wp_X10_orbit_L59 KL59 x2 x4 x5 a_now a_over fu x3 x6 → ∀ (H : Heap) (locs : List Loc) (ls : Array Slot), va_P G.1 vwCl (wd_X10_orbit G h_this h_now h_history h_over h_order h_colors h_row h_three h_seen h_group f_edits f_total a_now a_over) H → va_D A (wd_X10_orbit G h_this h_now h_history h_over h_order h_colors h_row h_three h_seen h_group f_edits f_total a_now a_over) → va_S A s.heap H locs → lv_has ls 7 [(0, .ref h_this), (2, .int x2), (3, .int x3), (4, .int x4), (5, .int x5), (6, .int x6)] → W p l e (headSpec wsX10_orbit rm_X10_orbit).room s m args below meth c H locs 0 0 (MQ below (qn_QI G (fun (r : Int32) (u : (Nat → Int32)) => post r u) (fun u : (Nat → Int32) => wd_X10_orbit G h_this h_now h_history h_over h_order h_colors h_row h_three h_seen h_group f_edits f_total a_now u) A) args s 0 0 A) (F0 m 59 ls []) := by
  obtain ⟨hx, hb, hml, hown, hts, hr, hlocks⟩ := id C0
  intro fu
  induction fu with
  | zero => intro x3 x6 hw; exact hw.elim
  | succ fu ih =>
    intro x3 x6 hw H locs ls hP hD hS hl
    refine lv_iload hx hb dX10_orbit_59 (lv_at hl 5 rfl) ?_
    refine lv_aload_n hx hb dX10_orbit_61 rfl (lv_at hl 0 rfl) ?_
    refine va_get (D := G.1) (ci := 10) (v := .ref h_now) (C := RX10) (T := TX10) (N := 11) hx hb hts in_X10_orbit_X10 hown hE.1 hP 0 rfl rfl 0 (by decide) (hts (.fieldLink RX10 7 "QuandleColoringsModel" "now" "[I") lk_X10_orbit_7) (fun _ h9 => h9) rfl dX10_orbit_62 ?_
    refine lv_bipush (v := 84) hx hb dX10_orbit_65 (by decide) ?_
    have hin := hw.1
    have hw := hw.2
    refine va_iald hx hb hE.1 hP 1 0 rfl rfl hin dX10_orbit_67 ?_
    refine lv_icmp_ge (tgt := 125) hx hb dX10_orbit_68 (by decide) (fun c_9 => ?_) (fun c_9 => ?_)
    · have hw := hw.1 c_9
      exact hKc x3 hw _ _ _ hP hD hS (lv_sub hl [0, 1, 2, 3, 4] rfl)
    · have hw := hw.2 c_9
      refine lv_iload hx hb dX10_orbit_71 (lv_at hl 3 rfl) ?_
      refine lv_iload hx hb dX10_orbit_73 (lv_at hl 4 rfl) ?_
      refine lv_ishr hx hb dX10_orbit_75 ?_
      refine lv_iconst (v := 1) hx hb dX10_orbit_76 (by decide) ?_
      refine lv_iand hx hb dX10_orbit_77 ?_
      refine lv_iconst (v := 1) hx hb dX10_orbit_78 (by decide) ?_
      refine lv_icmp_ne (tgt := 125) hx hb dX10_orbit_79 (by decide) (fun c_10 => ?_) (fun c_10 => ?_)
      · have hw := hw.1 c_10
        exact hKc x3 hw _ _ _ hP hD hS (lv_sub hl [0, 1, 2, 3, 4] rfl)
      · have hw := hw.2 c_10
        refine lv_iload_n hx hb dX10_orbit_82 rfl (lv_at hl 2 rfl) ?_
        refine lv_iconst (v := 1) hx hb dX10_orbit_83 (by decide) ?_
        refine lv_aload_n hx hb dX10_orbit_84 rfl (lv_at hl 0 rfl) ?_
        refine lv_iload hx hb dX10_orbit_85 (lv_at hl 4 rfl) ?_
        refine lv_iload hx hb dX10_orbit_87 (lv_at hl 5 rfl) ?_
        have hC9 : ([0, 1]).map (fun i => (wd_X10_orbit G h_this h_now h_history h_over h_order h_colors h_row h_three h_seen h_group f_edits f_total a_now a_over)[i]?) = (wd_X10_of G h_this h_now h_history h_over h_order h_colors h_row h_three h_seen h_group f_edits f_total a_now).map some := rfl
        refine qn_callI (wd := (fun u : Unit => wd_X10_orbit G h_this h_now h_history h_over h_order h_colors h_row h_three h_seen h_group f_edits f_total a_now a_over)) [0, 1] (va_runV (As := [.int x5, .int x6]) (rest := [.int 1, .int x3]) ⟨hx, hb, hml, hown, hts⟩ (c_X10_of G _ h_this h_now h_history h_over h_order h_colors h_row h_three h_seen h_group f_edits f_total a_now x5 x6 hw) (cwV 2 hts gX10_orbit_X10_of rfl rfl rfl (by decide +kernel) ⟨Nat.le_of_ble_eq_true rfl, Nat.le_of_ble_eq_true rfl⟩) (qn_preV hE hP hD [0, 1] hC9 (by decide +kernel) (ci := 10) rfl rfl) rfl rfl hl.1 rfl (lv_room (Nat.le_of_ble_eq_true rfl)) dX10_orbit_89 ⟨Nat.le_of_ble_eq_true rfl, Nat.le_of_ble_eq_true rfl⟩) hP hD hS hA hC9 [some 0, some 1, none] (M := 3) rfl (by decide +kernel) (fun _ => rfl) (fun _ => rfl) (fun r_11 _ H locs hw hP hD hS => ?_)
        try dsimp only at hw
        have hP : va_P G.1 vwCl (wd_X10_orbit G h_this h_now h_history h_over h_order h_colors h_row h_three h_seen h_group f_edits f_total a_now a_over) H := hP
        have hD : va_D A (wd_X10_orbit G h_this h_now h_history h_over h_order h_colors h_row h_three h_seen h_group f_edits f_total a_now a_over) := hD
        refine lv_ishl hx hb dX10_orbit_92 ?_
        refine lv_iload_n hx hb dX10_orbit_93 rfl (lv_at hl 1 rfl) ?_
        refine lv_if_eq (tgt := 115) hx hb dX10_orbit_94 (by decide) (fun c_12 => ?_) (fun c_12 => ?_)
        · have hw := hw.1 c_12
          refine lv_iconst (v := 0) hx hb dX10_orbit_115 (by decide) ?_
          refine lv_ior hx hb dX10_orbit_116 ?_
          refine lv_ior hx hb dX10_orbit_117 ?_
          refine lv_topi (fun x3_13 ex3_13 => ?_)
          have hw := hw x3_13 ex3_13
          refine lv_istore_n (lv' := [(3, .int x3_13), (0, .ref h_this), (2, .int x2), (4, .int x4), (5, .int x5), (6, .int x6)]) hx hb dX10_orbit_118 rfl hl (by decide) rfl (fun ls hl => ?_)
          obtain ⟨x6_14, ex6_14⟩ : ∃ y : Int32, y = x6 + 1 := ⟨_, rfl⟩
          have hw := hw x6_14 ex6_14
          refine lv_iinc (v := x6_14) (lv' := [(6, .int x6_14), (3, .int x3_13), (0, .ref h_this), (2, .int x2), (4, .int x4), (5, .int x5)]) hx hb dX10_orbit_119 hl (k := 5) rfl (by rw [ex6_14]; rfl) (by decide) rfl (fun ls hl => ?_)
          refine lv_goto (tgt := 59) hx hb dX10_orbit_122 (by decide) ?_
          exact ih x3_13 x6_14 hw _ _ _ hP hD hS (lv_sub hl [2, 3, 1, 4, 5, 0] rfl)
        · have hw := hw.2 c_12
          refine lv_iconst (v := 1) hx hb dX10_orbit_97 (by decide) ?_
          refine lv_aload_n hx hb dX10_orbit_98 rfl (lv_at hl 0 rfl) ?_
          refine va_get (D := G.1) (ci := 10) (v := .ref h_over) (C := RX10) (T := TX10) (N := 11) hx hb hts in_X10_orbit_X10 hown hE.1 hP 0 rfl rfl 3 (by decide) (hts (.fieldLink RX10 16 "QuandleColoringsModel" "over" "[I") lk_X10_orbit_16) (fun _ h9 => h9) rfl dX10_orbit_99 ?_
          refine lv_bipush (v := 6) hx hb dX10_orbit_102 (by decide) ?_
          refine lv_iload hx hb dX10_orbit_104 (lv_at hl 4 rfl) ?_
          refine lv_imul hx hb dX10_orbit_106 ?_
          refine lv_iload hx hb dX10_orbit_107 (lv_at hl 5 rfl) ?_
          refine lv_iadd hx hb dX10_orbit_109 ?_
          have hin := hw.1
          have hw := hw.2
          refine va_iald hx hb hE.1 hP 2 0 rfl rfl hin dX10_orbit_110 ?_
          refine lv_ishl hx hb dX10_orbit_111 ?_
          refine lv_goto (tgt := 116) hx hb dX10_orbit_112 (by decide) ?_
          refine lv_ior hx hb dX10_orbit_116 ?_
          refine lv_ior hx hb dX10_orbit_117 ?_
          refine lv_topi (fun x3_15 ex3_15 => ?_)
          have hw := hw x3_15 ex3_15
          refine lv_istore_n (lv' := [(3, .int x3_15), (0, .ref h_this), (2, .int x2), (4, .int x4), (5, .int x5), (6, .int x6)]) hx hb dX10_orbit_118 rfl hl (by decide) rfl (fun ls hl => ?_)
          obtain ⟨x6_16, ex6_16⟩ : ∃ y : Int32, y = x6 + 1 := ⟨_, rfl⟩
          have hw := hw x6_16 ex6_16
          refine lv_iinc (v := x6_16) (lv' := [(6, .int x6_16), (3, .int x3_15), (0, .ref h_this), (2, .int x2), (4, .int x4), (5, .int x5)]) hx hb dX10_orbit_119 hl (k := 5) rfl (by rw [ex6_16]; rfl) (by decide) rfl (fun ls hl => ?_)
          refine lv_goto (tgt := 59) hx hb dX10_orbit_122 (by decide) ?_
          exact ih x3_15 x6_16 hw _ _ _ hP hD hS (lv_sub hl [2, 3, 1, 4, 5, 0] rfl)
set_option maxHeartbeats 4000000 in
set_option maxRecDepth 100000 in
theorem l_X10_orbit_44 {p : Program} {l : Launch} {e : Env} {s : State} {m : MethodId} {args : Array Value} {below : List Frame} {meth : Method} {c : Code} {G : qn_G} {A : Nat → Prop} {h_this h_now h_history h_over h_order h_colors h_row h_three h_seen h_group : Nat} {f_edits : Int32} {f_total : Int32} {a_now : Nat → Int32} {a_over : Nat → Int32} {x2 : Int32} {x4 : Int32} {post : Int32 → (Nat → Int32) → Prop} {KL44 : Int32 → Prop} (C0 : qn_C p m c cX10_orbit 7 s args wsX10_orbit RX10 meth (some .int)) (hE : qn_EV G s) (hA : ∀ q, s.heap.size ≤ q → A q) (hKc : ∀ (x3 : Int32), KL44 x3 → ∀ (H : Heap) (locs : List Loc) (ls : Array Slot), va_P G.1 vwCl (wd_X10_orbit G h_this h_now h_history h_over h_order h_colors h_row h_three h_seen h_group f_edits f_total a_now a_over) H → va_D A (wd_X10_orbit G h_this h_now h_history h_over h_order h_colors h_row h_three h_seen h_group f_edits f_total a_now a_over) → va_S A s.heap H locs → lv_has ls 7 [(0, .ref h_this), (2, .int x2), (3, .int x3), (4, .int x4)] → W p l e (headSpec wsX10_orbit rm_X10_orbit).room s m args below meth c H locs 0 0 (MQ below (qn_QI G (fun (r : Int32) (u : (Nat → Int32)) => post r u) (fun u : (Nat → Int32) => wd_X10_orbit G h_this h_now h_history h_over h_order h_colors h_row h_three h_seen h_group f_edits f_total a_now u) A) args s 0 0 A) (F0 m 131 ls [])) :
    ∀ (fu : Nat) (x3 : Int32) (x5 : Int32), wp_X10_orbit_L44 KL44 x2 x4 a_now a_over fu x3 x5 → ∀ (H : Heap) (locs : List Loc) (ls : Array Slot), va_P G.1 vwCl (wd_X10_orbit G h_this h_now h_history h_over h_order h_colors h_row h_three h_seen h_group f_edits f_total a_now a_over) H → va_D A (wd_X10_orbit G h_this h_now h_history h_over h_order h_colors h_row h_three h_seen h_group f_edits f_total a_now a_over) → va_S A s.heap H locs → lv_has ls 7 [(0, .ref h_this), (2, .int x2), (3, .int x3), (4, .int x4), (5, .int x5)] → W p l e (headSpec wsX10_orbit rm_X10_orbit).room s m args below meth c H locs 0 0 (MQ below (qn_QI G (fun (r : Int32) (u : (Nat → Int32)) => post r u) (fun u : (Nat → Int32) => wd_X10_orbit G h_this h_now h_history h_over h_order h_colors h_row h_three h_seen h_group f_edits f_total a_now u) A) args s 0 0 A) (F0 m 44 ls []) := by
  obtain ⟨hx, hb, hml, hown, hts, hr, hlocks⟩ := id C0
  intro fu
  induction fu with
  | zero => intro x3 x5 hw; exact hw.elim
  | succ fu ih =>
    intro x3 x5 hw H locs ls hP hD hS hl
    refine lv_iload hx hb dX10_orbit_44 (lv_at hl 4 rfl) ?_
    refine lv_aload_n hx hb dX10_orbit_46 rfl (lv_at hl 0 rfl) ?_
    refine va_get (D := G.1) (ci := 10) (v := .ref h_now) (C := RX10) (T := TX10) (N := 11) hx hb hts in_X10_orbit_X10 hown hE.1 hP 0 rfl rfl 0 (by decide) (hts (.fieldLink RX10 7 "QuandleColoringsModel" "now" "[I") lk_X10_orbit_7) (fun _ h9 => h9) rfl dX10_orbit_47 ?_
    refine lv_bipush (v := 84) hx hb dX10_orbit_50 (by decide) ?_
    have hin := hw.1
    have hw := hw.2
    refine va_iald hx hb hE.1 hP 1 0 rfl rfl hin dX10_orbit_52 ?_
    refine lv_icmp_ge (tgt := 131) hx hb dX10_orbit_53 (by decide) (fun c_8 => ?_) (fun c_8 => ?_)
    · have hw := hw.1 c_8
      exact hKc x3 hw _ _ _ hP hD hS (lv_sub hl [0, 1, 2, 3] rfl)
    · have hw := hw.2 c_8
      refine lv_iconst (v := 0) hx hb dX10_orbit_56 (by decide) ?_
      refine lv_istore (lv' := [(6, .int 0), (0, .ref h_this), (2, .int x2), (3, .int x3), (4, .int x4), (5, .int x5)]) hx hb dX10_orbit_57 hl (by decide) rfl (fun ls hl => ?_)
      obtain ⟨fu_19, hw⟩ := hw
      refine l_X10_orbit_59 (post := post) C0 hE hA (fun x3_17 hw H locs ls hP hD hS hl => ?_) fu_19 x3 0 hw _ _ _ hP hD hS (lv_sub hl [1, 2, 3, 4, 5, 0] rfl)
      obtain ⟨x5_18, ex5_18⟩ : ∃ y : Int32, y = x5 + 1 := ⟨_, rfl⟩
      have hw := hw x5_18 ex5_18
      refine lv_iinc (v := x5_18) (lv' := [(5, .int x5_18), (0, .ref h_this), (2, .int x2), (3, .int x3_17), (4, .int x4)]) hx hb dX10_orbit_125 hl (k := 4) rfl (by rw [ex5_18]; rfl) (by decide) rfl (fun ls hl => ?_)
      refine lv_goto (tgt := 44) hx hb dX10_orbit_128 (by decide) ?_
      exact ih x3_17 x5_18 hw _ _ _ hP hD hS (lv_sub hl [1, 2, 3, 4, 0] rfl)
set_option maxHeartbeats 4000000 in
set_option maxRecDepth 100000 in
theorem l_X10_orbit_32 {p : Program} {l : Launch} {e : Env} {s : State} {m : MethodId} {args : Array Value} {below : List Frame} {meth : Method} {c : Code} {G : qn_G} {A : Nat → Prop} {h_this h_now h_history h_over h_order h_colors h_row h_three h_seen h_group : Nat} {f_edits : Int32} {f_total : Int32} {a_now : Nat → Int32} {a_over : Nat → Int32} {x2 : Int32} {post : Int32 → (Nat → Int32) → Prop} {KL32 : Int32 → Prop} (C0 : qn_C p m c cX10_orbit 7 s args wsX10_orbit RX10 meth (some .int)) (hE : qn_EV G s) (hA : ∀ q, s.heap.size ≤ q → A q) (hKc : ∀ (x3 : Int32), KL32 x3 → ∀ (H : Heap) (locs : List Loc) (ls : Array Slot), va_P G.1 vwCl (wd_X10_orbit G h_this h_now h_history h_over h_order h_colors h_row h_three h_seen h_group f_edits f_total a_now a_over) H → va_D A (wd_X10_orbit G h_this h_now h_history h_over h_order h_colors h_row h_three h_seen h_group f_edits f_total a_now a_over) → va_S A s.heap H locs → lv_has ls 7 [(3, .int x3)] → W p l e (headSpec wsX10_orbit rm_X10_orbit).room s m args below meth c H locs 0 0 (MQ below (qn_QI G (fun (r : Int32) (u : (Nat → Int32)) => post r u) (fun u : (Nat → Int32) => wd_X10_orbit G h_this h_now h_history h_over h_order h_colors h_row h_three h_seen h_group f_edits f_total a_now u) A) args s 0 0 A) (F0 m 134 ls [])) :
    ∀ (fu : Nat) (x3 : Int32) (x4 : Int32), wp_X10_orbit_L32 KL32 x2 a_now a_over fu x3 x4 → ∀ (H : Heap) (locs : List Loc) (ls : Array Slot), va_P G.1 vwCl (wd_X10_orbit G h_this h_now h_history h_over h_order h_colors h_row h_three h_seen h_group f_edits f_total a_now a_over) H → va_D A (wd_X10_orbit G h_this h_now h_history h_over h_order h_colors h_row h_three h_seen h_group f_edits f_total a_now a_over) → va_S A s.heap H locs → lv_has ls 7 [(0, .ref h_this), (2, .int x2), (3, .int x3), (4, .int x4)] → W p l e (headSpec wsX10_orbit rm_X10_orbit).room s m args below meth c H locs 0 0 (MQ below (qn_QI G (fun (r : Int32) (u : (Nat → Int32)) => post r u) (fun u : (Nat → Int32) => wd_X10_orbit G h_this h_now h_history h_over h_order h_colors h_row h_three h_seen h_group f_edits f_total a_now u) A) args s 0 0 A) (F0 m 32 ls []) := by
  obtain ⟨hx, hb, hml, hown, hts, hr, hlocks⟩ := id C0
  intro fu
  induction fu with
  | zero => intro x3 x4 hw; exact hw.elim
  | succ fu ih =>
    intro x3 x4 hw H locs ls hP hD hS hl
    refine lv_iload hx hb dX10_orbit_32 (lv_at hl 3 rfl) ?_
    refine lv_iload_n hx hb dX10_orbit_34 rfl (lv_at hl 2 rfl) ?_
    refine lv_icmp_eq (tgt := 134) hx hb dX10_orbit_35 (by decide) (fun c_7 => ?_) (fun c_7 => ?_)
    · have hw := hw.1 c_7
      exact hKc x3 hw _ _ _ hP hD hS (lv_sub hl [2] rfl)
    · have hw := hw.2 c_7
      refine lv_iload_n hx hb dX10_orbit_38 rfl (lv_at hl 2 rfl) ?_
      refine lv_istore (lv' := [(4, .int x3), (0, .ref h_this), (2, .int x2), (3, .int x3)]) hx hb dX10_orbit_39 hl (by decide) rfl (fun ls hl => ?_)
      refine lv_iconst (v := 0) hx hb dX10_orbit_41 (by decide) ?_
      refine lv_istore (lv' := [(5, .int 0), (4, .int x3), (0, .ref h_this), (2, .int x2), (3, .int x3)]) hx hb dX10_orbit_42 hl (by decide) rfl (fun ls hl => ?_)
      obtain ⟨fu_21, hw⟩ := hw
      refine l_X10_orbit_44 (post := post) C0 hE hA (fun x3_20 hw H locs ls hP hD hS hl => ?_) fu_21 x3 0 hw _ _ _ hP hD hS (lv_sub hl [2, 3, 4, 1, 0] rfl)
      refine lv_goto (tgt := 32) hx hb dX10_orbit_131 (by decide) ?_
      exact ih x3_20 x3 hw _ _ _ hP hD hS (lv_sub hl [0, 1, 2, 3] rfl)
set_option maxHeartbeats 4000000 in
set_option maxRecDepth 100000 in
theorem c_X10_orbit {l : Launch} (G : qn_G) (sz : Nat) (h_this h_now h_history h_over h_order h_colors h_row h_three h_seen h_group : Nat) (f_edits : Int32) (f_total : Int32) (a_now : Nat → Int32) (a_over : Nat → Int32) (x1 : Int32) {post : Int32 → (Nat → Int32) → Prop} (hw : wp_X10_orbit post a_now a_over x1) : Met l yX10_orbit wsX10_orbit rm_X10_orbit (qn_PC G [.ref h_this, .int x1] sz (wd_X10_orbit G h_this h_now h_history h_over h_order h_colors h_row h_three h_seen h_group f_edits f_total a_now a_over)) (qn_QI G (fun (r : Int32) (u : (Nat → Int32)) => post r u) (fun u : (Nat → Int32) => wd_X10_orbit G h_this h_now h_history h_over h_order h_colors h_row h_three h_seen h_group f_edits f_total a_now u) (va_A (wd_X10_orbit G h_this h_now h_history h_over h_order h_colors h_row h_three h_seen h_group f_edits f_total a_now a_over) sz)) 0 0 (va_A (wd_X10_orbit G h_this h_now h_history h_over h_order h_colors h_row h_three h_seen h_group f_edits f_total a_now a_over) sz) := by
  refine Met.ofW (cc := cX10_orbit) (maxL := 7) (ret := (some .int)) (by decide) rfl ?_
  intro p e s m args below meth c s₁ B hml hv
  obtain ⟨rfl, hsz, hP, hE, hD0⟩ := hv
  have C0 : qn_C p m c cX10_orbit 7 s _ wsX10_orbit RX10 meth (some .int) := qn_C0 B hml
  obtain ⟨hx, hb, -, hown, hts, hr, hlocks⟩ := id C0
  subst hsz
  have hD := hD0.self (sz := s.heap.size)
  generalize hAe : va_A (wd_X10_orbit G h_this h_now h_history h_over h_order h_colors h_row h_three h_seen h_group f_edits f_total a_now a_over) s.heap.size = A at hD ⊢
  have hA : ∀ q : Nat, s.heap.size ≤ q → A q := fun q h => by rw [← hAe]; exact Or.inr h
  clear hAe
  have hS : va_S A s.heap s.heap [] := va_S.rf
  have hl := lv_entry ([.ref h_this, .int x1]) (n := 7) (Nat.le_of_ble_eq_true rfl)
  rw [lg_entry_eq]
  generalize (lg_sl ([.ref h_this, .int x1]) ++ List.replicate (7 - (lg_sl ([.ref h_this, .int x1])).length) Slot.unset).toArray = ls at hl ⊢
  have hl : lv_has ls 7 [(0, .ref h_this), (1, .int x1)] := hl
  have hP : va_P G.1 vwCl (wd_X10_orbit G h_this h_now h_history h_over h_order h_colors h_row h_three h_seen h_group f_edits f_total a_now a_over) s.heap := hP
  refine lv_aload_n hx hb dX10_orbit_0 rfl (lv_at hl 0 rfl) ?_
  refine lv_iload_n hx hb dX10_orbit_1 rfl (lv_at hl 1 rfl) ?_
  have hC9 : ([0, 1]).map (fun i => (wd_X10_orbit G h_this h_now h_history h_over h_order h_colors h_row h_three h_seen h_group f_edits f_total a_now a_over)[i]?) = (wd_X10_isElement G h_this h_now h_history h_over h_order h_colors h_row h_three h_seen h_group f_edits f_total a_now).map some := rfl
  refine qn_callI (wd := (fun u : Unit => wd_X10_orbit G h_this h_now h_history h_over h_order h_colors h_row h_three h_seen h_group f_edits f_total a_now a_over)) [0, 1] (va_runV (As := [.int x1]) (rest := []) ⟨hx, hb, hml, hown, hts⟩ (c_X10_isElement G _ h_this h_now h_history h_over h_order h_colors h_row h_three h_seen h_group f_edits f_total a_now x1 hw) (cwV 1 hts gX10_orbit_X10_isElement rfl rfl rfl (by decide +kernel) ⟨Nat.le_of_ble_eq_true rfl, Nat.le_of_ble_eq_true rfl⟩) (qn_preV hE hP hD [0, 1] hC9 (by decide +kernel) (ci := 10) rfl rfl) rfl rfl hl.1 rfl (lv_room (Nat.le_of_ble_eq_true rfl)) dX10_orbit_2 ⟨Nat.le_of_ble_eq_true rfl, Nat.le_of_ble_eq_true rfl⟩) hP hD hS hA hC9 [some 0, some 1, none] (M := 3) rfl (by decide +kernel) (fun _ => rfl) (fun _ => rfl) (fun r_1 _ H locs hw hP hD hS => ?_)
  try dsimp only at hw
  have hP : va_P G.1 vwCl (wd_X10_orbit G h_this h_now h_history h_over h_order h_colors h_row h_three h_seen h_group f_edits f_total a_now a_over) H := hP
  have hD : va_D A (wd_X10_orbit G h_this h_now h_history h_over h_order h_colors h_row h_three h_seen h_group f_edits f_total a_now a_over) := hD
  refine lv_if_ne (tgt := 10) hx hb dX10_orbit_5 (by decide) (fun c_2 => ?_) (fun c_2 => ?_)
  · have hw := hw.1 c_2
    refine lv_aload_n hx hb dX10_orbit_10 rfl (lv_at hl 0 rfl) ?_
    have hC9 : ([0, 1, 2]).map (fun i => (wd_X10_orbit G h_this h_now h_history h_over h_order h_colors h_row h_three h_seen h_group f_edits f_total a_now a_over)[i]?) = (wd_X10_column G h_this h_now h_history h_over h_order h_colors h_row h_three h_seen h_group f_edits f_total a_now a_over).map some := rfl
    refine qn_callI (wd := (fun u : (Nat → Int32) => wd_X10_orbit G h_this h_now h_history h_over h_order h_colors h_row h_three h_seen h_group f_edits f_total a_now u)) [0, 1, 2] (va_runV (As := []) (rest := []) ⟨hx, hb, hml, hown, hts⟩ (c_X10_column G _ h_this h_now h_history h_over h_order h_colors h_row h_three h_seen h_group f_edits f_total a_now a_over hw) (cwV 0 hts gX10_orbit_X10_column rfl rfl rfl (by decide +kernel) ⟨Nat.le_of_ble_eq_true rfl, Nat.le_of_ble_eq_true rfl⟩) (qn_preV hE hP hD [0, 1, 2] hC9 (by decide +kernel) (ci := 10) rfl rfl) rfl rfl hl.1 rfl (lv_room (Nat.le_of_ble_eq_true rfl)) dX10_orbit_11 ⟨Nat.le_of_ble_eq_true rfl, Nat.le_of_ble_eq_true rfl⟩) hP hD hS hA hC9 [some 0, some 1, some 2] (M := 3) rfl (by decide +kernel) (fun _ => rfl) (fun _ => rfl) (fun r_4 a_over_3 H locs hw hP hD hS => ?_)
    try dsimp only at hw
    have hP : va_P G.1 vwCl (wd_X10_orbit G h_this h_now h_history h_over h_order h_colors h_row h_three h_seen h_group f_edits f_total a_now a_over_3) H := hP
    have hD : va_D A (wd_X10_orbit G h_this h_now h_history h_over h_order h_colors h_row h_three h_seen h_group f_edits f_total a_now a_over_3) := hD
    refine lv_bipush (v := (-4)) hx hb dX10_orbit_14 (by decide) ?_
    refine lv_icmp_ne (tgt := 23) hx hb dX10_orbit_16 (by decide) (fun c_5 => ?_) (fun c_5 => ?_)
    · have hw := hw.1 c_5
      refine lv_iconst (v := 0) hx hb dX10_orbit_23 (by decide) ?_
      refine lv_istore_n (lv' := [(2, .int 0), (0, .ref h_this), (1, .int x1)]) hx hb dX10_orbit_24 rfl hl (by decide) rfl (fun ls hl => ?_)
      refine lv_iconst (v := 1) hx hb dX10_orbit_25 (by decide) ?_
      refine lv_iload_n hx hb dX10_orbit_26 rfl (lv_at hl 2 rfl) ?_
      refine lv_ishl hx hb dX10_orbit_27 ?_
      refine lv_topi (fun x3_24 ex3_24 => ?_)
      have hw := hw x3_24 ex3_24
      refine lv_istore_n (lv' := [(3, .int x3_24), (2, .int 0), (0, .ref h_this), (1, .int x1)]) hx hb dX10_orbit_28 rfl hl (by decide) rfl (fun ls hl => ?_)
      refine lv_iconst (v := 0) hx hb dX10_orbit_29 (by decide) ?_
      refine lv_istore (lv' := [(4, .int 0), (3, .int x3_24), (2, .int 0), (0, .ref h_this), (1, .int x1)]) hx hb dX10_orbit_30 hl (by decide) rfl (fun ls hl => ?_)
      obtain ⟨fu_26, hw⟩ := hw
      refine l_X10_orbit_32 (post := post) C0 hE hA (fun x3_25 hw H locs ls hP hD hS hl => ?_) fu_26 x3_24 0 hw _ _ _ hP hD hS (lv_sub hl [3, 2, 1, 0] rfl)
      refine lv_iload_n hx hb dX10_orbit_134 rfl (lv_at hl 0 rfl) ?_
      exact W.iret (v := x3_25) hx hb hr (fun t ht hW => ⟨⟨x3_25, a_over_3, rfl, hw, by rw [ht]; exact hP, hD⟩, hS.F ht⟩) hS.2.2 dX10_orbit_135
    · have hw := hw.2 c_5
      refine lv_iconst (v := 1) hx hb dX10_orbit_19 (by decide) ?_
      refine lv_goto (tgt := 24) hx hb dX10_orbit_20 (by decide) ?_
      refine lv_istore_n (lv' := [(2, .int 1), (0, .ref h_this), (1, .int x1)]) hx hb dX10_orbit_24 rfl hl (by decide) rfl (fun ls hl => ?_)
      refine lv_iconst (v := 1) hx hb dX10_orbit_25 (by decide) ?_
      refine lv_iload_n hx hb dX10_orbit_26 rfl (lv_at hl 2 rfl) ?_
      refine lv_ishl hx hb dX10_orbit_27 ?_
      refine lv_topi (fun x3_27 ex3_27 => ?_)
      have hw := hw x3_27 ex3_27
      refine lv_istore_n (lv' := [(3, .int x3_27), (2, .int 1), (0, .ref h_this), (1, .int x1)]) hx hb dX10_orbit_28 rfl hl (by decide) rfl (fun ls hl => ?_)
      refine lv_iconst (v := 0) hx hb dX10_orbit_29 (by decide) ?_
      refine lv_istore (lv' := [(4, .int 0), (3, .int x3_27), (2, .int 1), (0, .ref h_this), (1, .int x1)]) hx hb dX10_orbit_30 hl (by decide) rfl (fun ls hl => ?_)
      obtain ⟨fu_29, hw⟩ := hw
      refine l_X10_orbit_32 (post := post) C0 hE hA (fun x3_28 hw H locs ls hP hD hS hl => ?_) fu_29 x3_27 0 hw _ _ _ hP hD hS (lv_sub hl [3, 2, 1, 0] rfl)
      refine lv_iload_n hx hb dX10_orbit_134 rfl (lv_at hl 0 rfl) ?_
      exact W.iret (v := x3_28) hx hb hr (fun t ht hW => ⟨⟨x3_28, a_over_3, rfl, hw, by rw [ht]; exact hP, hD⟩, hS.F ht⟩) hS.2.2 dX10_orbit_135
  · have hw := hw.2 c_2
    refine lv_iconst (v := (-1)) hx hb dX10_orbit_8 (by decide) ?_
    exact W.iret (v := (-1)) hx hb hr (fun t ht hW => ⟨⟨(-1), a_over, rfl, hw, by rw [ht]; exact hP, hD⟩, hS.F ht⟩) hS.2.2 dX10_orbit_9
-- QuandleColoringsModel.innerGroupOrder()I
abbrev rm_X10_innerGroupOrder : Room := { frames := 1, cells := 0, slots := 0, locals := 25 }
abbrev wd_X10_innerGroupOrder (G : qn_G) (h_this h_now h_history h_over h_order h_colors h_row h_three h_seen h_group : Nat) (f_edits : Int32) (f_total : Int32) (a_now : Nat → Int32) (a_over : Nat → Int32) (a_row : Nat → Int32) (a_seen : Nat → Int32) (a_group : Nat → Int32) : va_W := [(h_this, .inr (10, [.ref h_now, .ref h_history, .int f_edits, .ref h_over, .ref h_order, .ref h_colors, .int f_total, .ref h_row, .ref h_three, .ref h_seen, .ref h_group])), (h_now, .inl (G.2.1, 88, .inl a_now)), (h_over, .inl (G.2.1, 36, .inl a_over)), (h_row, .inl (G.2.1, 6, .inl a_row)), (h_seen, .inl (G.2.1, 720, .inl a_seen)), (h_group, .inl (G.2.1, 4320, .inl a_group))]
theorem in_X10_innerGroupOrder_X10 : ∀ w ∈ u_ws RX10 TX10 11, w ∈ wsX10_innerGroupOrder := by decide +kernel
theorem lk_X10_innerGroupOrder_25 : Cond.fieldLink RX10 25 "QuandleColoringsModel" "row" "[I" ∈ wsX10_innerGroupOrder := by decide +kernel
theorem lk_X10_innerGroupOrder_31 : Cond.fieldLink RX10 31 "QuandleColoringsModel" "seen" "[I" ∈ wsX10_innerGroupOrder := by decide +kernel
theorem lk_X10_innerGroupOrder_34 : Cond.fieldLink RX10 34 "QuandleColoringsModel" "group" "[I" ∈ wsX10_innerGroupOrder := by decide +kernel
theorem lk_X10_innerGroupOrder_7 : Cond.fieldLink RX10 7 "QuandleColoringsModel" "now" "[I" ∈ wsX10_innerGroupOrder := by decide +kernel
def wp_X10_innerGroupOrder_L22 (KL22 : (Nat → Int32) → Prop) : Nat → Int32 → (Nat → Int32) → Prop
  | 0 => fun _ _ => False
  | fu + 1 => fun x2 a_seen => ((720 ≤ x2 → (KL22 a_seen)) ∧ (¬ 720 ≤ x2 → (vp_in x2 720 ∧ (∀ a_seen_6 : Nat → Int32, a_seen_6 = upd a_seen x2.toNatClampNeg 0 → (∀ x2_7 : Int32, x2_7 = x2 + 1 → ((wp_X10_innerGroupOrder_L22 KL22 fu) x2_7 a_seen_6))))))
def wp_X10_innerGroupOrder_L44 (KL44 : (Nat → Int32) → Prop) (x1 : Int32) : Nat → Int32 → (Nat → Int32) → Prop
  | 0 => fun _ _ => False
  | fu + 1 => fun x2 a_group => ((x1 ≤ x2 → (KL44 a_group)) ∧ (¬ x1 ≤ x2 → (vp_in x2 4320 ∧ (∀ a_group_10 : Nat → Int32, a_group_10 = upd a_group x2.toNatClampNeg x2 → (∀ x2_11 : Int32, x2_11 = x2 + 1 → ((wp_X10_innerGroupOrder_L44 KL44 x1 fu) x2_11 a_group_10))))))
def wp_X10_innerGroupOrder_L90 (KL90 : (Nat → Int32) → Prop) (x1 : Int32) (x3 : Int32) (x4 : Int32) (a_now : Nat → Int32) (a_group : Nat → Int32) : Nat → Int32 → (Nat → Int32) → Prop
  | 0 => fun _ _ => False
  | fu + 1 => fun x5 a_row => ((x1 ≤ x5 → (KL90 a_row)) ∧ (¬ x1 ≤ x5 → (vp_in ((6 * x3) + x5) 4320 ∧ (wp_X10_of (fun (r_17 : Int32) => (vp_in x5 6 ∧ (∀ a_row_18 : Nat → Int32, a_row_18 = upd a_row x5.toNatClampNeg r_17 → (∀ x5_19 : Int32, x5_19 = x5 + 1 → ((wp_X10_innerGroupOrder_L90 KL90 x1 x3 x4 a_now a_group fu) x5_19 a_row_18))))) a_now (a_group ((6 * x3) + x5).toNatClampNeg) x4))))
def wp_X10_innerGroupOrder_L155 (KL155 : (Nat → Int32) → Prop) (x1 : Int32) (x2 : Int32) (a_row : Nat → Int32) : Nat → Int32 → (Nat → Int32) → Prop
  | 0 => fun _ _ => False
  | fu + 1 => fun x6 a_group => ((x1 ≤ x6 → (KL155 a_group)) ∧ (¬ x1 ≤ x6 → (vp_in x6 6 ∧ (vp_in ((6 * x2) + x6) 4320 ∧ (∀ a_group_26 : Nat → Int32, a_group_26 = upd a_group ((6 * x2) + x6).toNatClampNeg (a_row x6.toNatClampNeg) → (∀ x6_27 : Int32, x6_27 = x6 + 1 → ((wp_X10_innerGroupOrder_L155 KL155 x1 x2 a_row fu) x6_27 a_group_26)))))))
def wp_X10_innerGroupOrder_L81 (KL81 : Int32 → (Nat → Int32) → (Nat → Int32) → (Nat → Int32) → Prop) (x1 : Int32) (x3 : Int32) (a_now : Nat → Int32) : Nat → Int32 → Int32 → (Nat → Int32) → (Nat → Int32) → (Nat → Int32) → Prop
  | 0 => fun _ _ _ _ _ => False
  | fu + 1 => fun x2 x4 a_row a_seen a_group => ((x1 ≤ x4 → (KL81 x2 a_row a_seen a_group)) ∧ (¬ x1 ≤ x4 → (∃ fu_32 : Nat, wp_X10_innerGroupOrder_L90 (fun (a_row_20 : Nat → Int32) => (wp_X10_rank (fun (r_21 : Int32) => (vp_in r_21 720 ∧ ((¬ (a_seen r_21.toNatClampNeg) = 0 → (∀ x4_23 : Int32, x4_23 = x4 + 1 → ((wp_X10_innerGroupOrder_L81 KL81 x1 x3 a_now fu) x2 x4_23 a_row_20 a_seen a_group))) ∧ ((a_seen r_21.toNatClampNeg) = 0 → (vp_in r_21 720 ∧ (∀ a_seen_24 : Nat → Int32, a_seen_24 = upd a_seen r_21.toNatClampNeg 1 → (∃ fu_31 : Nat, wp_X10_innerGroupOrder_L155 (fun (a_group_28 : Nat → Int32) => (∀ x2_29 : Int32, x2_29 = x2 + 1 → (∀ x4_30 : Int32, x4_30 = x4 + 1 → ((wp_X10_innerGroupOrder_L81 KL81 x1 x3 a_now fu) x2_29 x4_30 a_row_20 a_seen_24 a_group_28)))) x1 x2 a_row_20 fu_31 0 a_group))))))) a_row_20 x1)) x1 x3 x4 a_now a_group fu_32 0 a_row)))
def wp_X10_innerGroupOrder_L73 (KL73 : Int32 → (Nat → Int32) → (Nat → Int32) → (Nat → Int32) → Prop) (x1 : Int32) (a_now : Nat → Int32) : Nat → Int32 → Int32 → (Nat → Int32) → (Nat → Int32) → (Nat → Int32) → Prop
  | 0 => fun _ _ _ _ _ => False
  | fu + 1 => fun x2 x3 a_row a_seen a_group => ((x2 ≤ x3 → (KL73 x2 a_row a_seen a_group)) ∧ (¬ x2 ≤ x3 → (∃ fu_38 : Nat, wp_X10_innerGroupOrder_L81 (fun (x2_33 : Int32) (a_row_34 : Nat → Int32) (a_seen_35 : Nat → Int32) (a_group_36 : Nat → Int32) => (∀ x3_37 : Int32, x3_37 = x3 + 1 → ((wp_X10_innerGroupOrder_L73 KL73 x1 a_now fu) x2_33 x3_37 a_row_34 a_seen_35 a_group_36))) x1 x3 a_now fu_38 x2 0 a_row a_seen a_group)))
def wp_X10_innerGroupOrder (post : Int32 → (Nat → Int32) → (Nat → Int32) → (Nat → Int32) → (Nat → Int32) → Prop) (a_now : Nat → Int32) (a_over : Nat → Int32) (a_row : Nat → Int32) (a_seen : Nat → Int32) (a_group : Nat → Int32) : Prop := (wp_X10_column (fun (r_2 : Int32) (a_over_1 : Nat → Int32) => ((r_2 = (-4) → (vp_in 84 88 ∧ (∀ x1_4 : Int32, x1_4 = a_now (84 : Int32).toNatClampNeg → (∃ fu_45 : Nat, wp_X10_innerGroupOrder_L22 (fun (a_seen_8 : Nat → Int32) => (∃ fu_44 : Nat, wp_X10_innerGroupOrder_L44 (fun (a_group_12 : Nat → Int32) => (vp_in 0 720 ∧ (∀ a_seen_13 : Nat → Int32, a_seen_13 = upd a_seen_8 (0 : Int32).toNatClampNeg 1 → (∃ fu_43 : Nat, wp_X10_innerGroupOrder_L73 (fun (x2_39 : Int32) (a_row_40 : Nat → Int32) (a_seen_41 : Nat → Int32) (a_group_42 : Nat → Int32) => (post x2_39 a_over_1 a_row_40 a_seen_41 a_group_42)) x1_4 a_now fu_43 1 0 a_row a_seen_13 a_group_12)))) x1_4 fu_44 0 a_group)) fu_45 0 a_seen)))) ∧ (¬ r_2 = (-4) → (post (-2) a_over_1 a_row a_seen a_group)))) a_now a_over)
set_option maxHeartbeats 4000000 in
set_option maxRecDepth 100000 in
theorem l_X10_innerGroupOrder_22 {p : Program} {l : Launch} {e : Env} {s : State} {m : MethodId} {args : Array Value} {below : List Frame} {meth : Method} {c : Code} {G : qn_G} {A : Nat → Prop} {h_this h_now h_history h_over h_order h_colors h_row h_three h_seen h_group : Nat} {f_edits : Int32} {f_total : Int32} {a_now : Nat → Int32} {a_over : Nat → Int32} {a_row : Nat → Int32} {a_group : Nat → Int32} {x1 : Int32} {post : Int32 → (Nat → Int32) → (Nat → Int32) → (Nat → Int32) → (Nat → Int32) → Prop} {KL22 : (Nat → Int32) → Prop} (C0 : qn_C p m c cX10_innerGroupOrder 7 s args wsX10_innerGroupOrder RX10 meth (some .int)) (hE : qn_EV G s) (hA : ∀ q, s.heap.size ≤ q → A q) (hKc : ∀ (a_seen : Nat → Int32), KL22 a_seen → ∀ (H : Heap) (locs : List Loc) (ls : Array Slot), va_P G.1 vwCl (wd_X10_innerGroupOrder G h_this h_now h_history h_over h_order h_colors h_row h_three h_seen h_group f_edits f_total a_now a_over a_row a_seen a_group) H → va_D A (wd_X10_innerGroupOrder G h_this h_now h_history h_over h_order h_colors h_row h_three h_seen h_group f_edits f_total a_now a_over a_row a_seen a_group) → va_S A s.heap H locs → lv_has ls 7 [(0, .ref h_this), (1, .int x1)] → W p l e (headSpec wsX10_innerGroupOrder rm_X10_innerGroupOrder).room s m args below meth c H locs 0 0 (MQ below (qn_QI G (fun (r : Int32) (u : (Nat → Int32) × (Nat → Int32) × (Nat → Int32) × (Nat → Int32)) => post r u.1 u.2.1 u.2.2.1 u.2.2.2) (fun u : (Nat → Int32) × (Nat → Int32) × (Nat → Int32) × (Nat → Int32) => wd_X10_innerGroupOrder G h_this h_now h_history h_over h_order h_colors h_row h_three h_seen h_group f_edits f_total a_now (u.1) (u.2.1) (u.2.2.1) (u.2.2.2)) A) args s 0 0 A) (F0 m 42 ls [])) :
    ∀ (fu : Nat) (x2 : Int32) (a_seen : Nat → Int32), wp_X10_innerGroupOrder_L22 KL22 fu x2 a_seen → ∀ (H : Heap) (locs : List Loc) (ls : Array Slot), va_P G.1 vwCl (wd_X10_innerGroupOrder G h_this h_now h_history h_over h_order h_colors h_row h_three h_seen h_group f_edits f_total a_now a_over a_row a_seen a_group) H → va_D A (wd_X10_innerGroupOrder G h_this h_now h_history h_over h_order h_colors h_row h_three h_seen h_group f_edits f_total a_now a_over a_row a_seen a_group) → va_S A s.heap H locs → lv_has ls 7 [(0, .ref h_this), (1, .int x1), (2, .int x2)] → W p l e (headSpec wsX10_innerGroupOrder rm_X10_innerGroupOrder).room s m args below meth c H locs 0 0 (MQ below (qn_QI G (fun (r : Int32) (u : (Nat → Int32) × (Nat → Int32) × (Nat → Int32) × (Nat → Int32)) => post r u.1 u.2.1 u.2.2.1 u.2.2.2) (fun u : (Nat → Int32) × (Nat → Int32) × (Nat → Int32) × (Nat → Int32) => wd_X10_innerGroupOrder G h_this h_now h_history h_over h_order h_colors h_row h_three h_seen h_group f_edits f_total a_now (u.1) (u.2.1) (u.2.2.1) (u.2.2.2)) A) args s 0 0 A) (F0 m 22 ls []) := by
  obtain ⟨hx, hb, hml, hown, hts, hr, hlocks⟩ := id C0
  intro fu
  induction fu with
  | zero => intro x2 a_seen hw; exact hw.elim
  | succ fu ih =>
    intro x2 a_seen hw H locs ls hP hD hS hl
    refine lv_iload_n hx hb dX10_innerGroupOrder_22 rfl (lv_at hl 2 rfl) ?_
    refine lv_sipush (v := 720) hx hb dX10_innerGroupOrder_23 (by decide) ?_
    refine lv_icmp_ge (tgt := 42) hx hb dX10_innerGroupOrder_26 (by decide) (fun c_5 => ?_) (fun c_5 => ?_)
    · have hw := hw.1 c_5
      exact hKc a_seen hw _ _ _ hP hD hS (lv_sub hl [0, 1] rfl)
    · have hw := hw.2 c_5
      refine lv_aload_n hx hb dX10_innerGroupOrder_29 rfl (lv_at hl 0 rfl) ?_
      refine va_get (D := G.1) (ci := 10) (v := .ref h_seen) (C := RX10) (T := TX10) (N := 11) hx hb hts in_X10_innerGroupOrder_X10 hown hE.1 hP 0 rfl rfl 9 (by decide) (hts (.fieldLink RX10 31 "QuandleColoringsModel" "seen" "[I") lk_X10_innerGroupOrder_31) (fun _ h9 => h9) rfl dX10_innerGroupOrder_30 ?_
      refine lv_iload_n hx hb dX10_innerGroupOrder_33 rfl (lv_at hl 2 rfl) ?_
      refine lv_iconst (v := 0) hx hb dX10_innerGroupOrder_34 (by decide) ?_
      have hin := hw.1
      have hw := hw.2
      obtain ⟨a_seen_6, ea_seen_6⟩ : ∃ y : Nat → Int32, y = upd a_seen x2.toNatClampNeg 0 := ⟨_, rfl⟩
      have hw := hw a_seen_6 ea_seen_6
      refine va_iast hx hb hE.1 hP hD hS 4 0 rfl rfl hin dX10_innerGroupOrder_35 (fun H locs hP hD hS => ?_)
      rw [← ea_seen_6] at hP hD
      have hP : va_P G.1 vwCl (wd_X10_innerGroupOrder G h_this h_now h_history h_over h_order h_colors h_row h_three h_seen h_group f_edits f_total a_now a_over a_row a_seen_6 a_group) H := hP
      have hD : va_D A (wd_X10_innerGroupOrder G h_this h_now h_history h_over h_order h_colors h_row h_three h_seen h_group f_edits f_total a_now a_over a_row a_seen_6 a_group) := hD
      obtain ⟨x2_7, ex2_7⟩ : ∃ y : Int32, y = x2 + 1 := ⟨_, rfl⟩
      have hw := hw x2_7 ex2_7
      refine lv_iinc (v := x2_7) (lv' := [(2, .int x2_7), (0, .ref h_this), (1, .int x1)]) hx hb dX10_innerGroupOrder_36 hl (k := 2) rfl (by rw [ex2_7]; rfl) (by decide) rfl (fun ls hl => ?_)
      refine lv_goto (tgt := 22) hx hb dX10_innerGroupOrder_39 (by decide) ?_
      exact ih x2_7 a_seen_6 hw _ _ _ hP hD hS (lv_sub hl [1, 2, 0] rfl)
set_option maxHeartbeats 4000000 in
set_option maxRecDepth 100000 in
theorem l_X10_innerGroupOrder_44 {p : Program} {l : Launch} {e : Env} {s : State} {m : MethodId} {args : Array Value} {below : List Frame} {meth : Method} {c : Code} {G : qn_G} {A : Nat → Prop} {h_this h_now h_history h_over h_order h_colors h_row h_three h_seen h_group : Nat} {f_edits : Int32} {f_total : Int32} {a_now : Nat → Int32} {a_over : Nat → Int32} {a_row : Nat → Int32} {a_seen : Nat → Int32} {x1 : Int32} {post : Int32 → (Nat → Int32) → (Nat → Int32) → (Nat → Int32) → (Nat → Int32) → Prop} {KL44 : (Nat → Int32) → Prop} (C0 : qn_C p m c cX10_innerGroupOrder 7 s args wsX10_innerGroupOrder RX10 meth (some .int)) (hE : qn_EV G s) (hA : ∀ q, s.heap.size ≤ q → A q) (hKc : ∀ (a_group : Nat → Int32), KL44 a_group → ∀ (H : Heap) (locs : List Loc) (ls : Array Slot), va_P G.1 vwCl (wd_X10_innerGroupOrder G h_this h_now h_history h_over h_order h_colors h_row h_three h_seen h_group f_edits f_total a_now a_over a_row a_seen a_group) H → va_D A (wd_X10_innerGroupOrder G h_this h_now h_history h_over h_order h_colors h_row h_three h_seen h_group f_edits f_total a_now a_over a_row a_seen a_group) → va_S A s.heap H locs → lv_has ls 7 [(0, .ref h_this), (1, .int x1)] → W p l e (headSpec wsX10_innerGroupOrder rm_X10_innerGroupOrder).room s m args below meth c H locs 0 0 (MQ below (qn_QI G (fun (r : Int32) (u : (Nat → Int32) × (Nat → Int32) × (Nat → Int32) × (Nat → Int32)) => post r u.1 u.2.1 u.2.2.1 u.2.2.2) (fun u : (Nat → Int32) × (Nat → Int32) × (Nat → Int32) × (Nat → Int32) => wd_X10_innerGroupOrder G h_this h_now h_history h_over h_order h_colors h_row h_three h_seen h_group f_edits f_total a_now (u.1) (u.2.1) (u.2.2.1) (u.2.2.2)) A) args s 0 0 A) (F0 m 62 ls [])) :
    ∀ (fu : Nat) (x2 : Int32) (a_group : Nat → Int32), wp_X10_innerGroupOrder_L44 KL44 x1 fu x2 a_group → ∀ (H : Heap) (locs : List Loc) (ls : Array Slot), va_P G.1 vwCl (wd_X10_innerGroupOrder G h_this h_now h_history h_over h_order h_colors h_row h_three h_seen h_group f_edits f_total a_now a_over a_row a_seen a_group) H → va_D A (wd_X10_innerGroupOrder G h_this h_now h_history h_over h_order h_colors h_row h_three h_seen h_group f_edits f_total a_now a_over a_row a_seen a_group) → va_S A s.heap H locs → lv_has ls 7 [(0, .ref h_this), (1, .int x1), (2, .int x2)] → W p l e (headSpec wsX10_innerGroupOrder rm_X10_innerGroupOrder).room s m args below meth c H locs 0 0 (MQ below (qn_QI G (fun (r : Int32) (u : (Nat → Int32) × (Nat → Int32) × (Nat → Int32) × (Nat → Int32)) => post r u.1 u.2.1 u.2.2.1 u.2.2.2) (fun u : (Nat → Int32) × (Nat → Int32) × (Nat → Int32) × (Nat → Int32) => wd_X10_innerGroupOrder G h_this h_now h_history h_over h_order h_colors h_row h_three h_seen h_group f_edits f_total a_now (u.1) (u.2.1) (u.2.2.1) (u.2.2.2)) A) args s 0 0 A) (F0 m 44 ls []) := by
  obtain ⟨hx, hb, hml, hown, hts, hr, hlocks⟩ := id C0
  intro fu
  induction fu with
  | zero => intro x2 a_group hw; exact hw.elim
  | succ fu ih =>
    intro x2 a_group hw H locs ls hP hD hS hl
    refine lv_iload_n hx hb dX10_innerGroupOrder_44 rfl (lv_at hl 2 rfl) ?_
    refine lv_iload_n hx hb dX10_innerGroupOrder_45 rfl (lv_at hl 1 rfl) ?_
    refine lv_icmp_ge (tgt := 62) hx hb dX10_innerGroupOrder_46 (by decide) (fun c_9 => ?_) (fun c_9 => ?_)
    · have hw := hw.1 c_9
      exact hKc a_group hw _ _ _ hP hD hS (lv_sub hl [0, 1] rfl)
    · have hw := hw.2 c_9
      refine lv_aload_n hx hb dX10_innerGroupOrder_49 rfl (lv_at hl 0 rfl) ?_
      refine va_get (D := G.1) (ci := 10) (v := .ref h_group) (C := RX10) (T := TX10) (N := 11) hx hb hts in_X10_innerGroupOrder_X10 hown hE.1 hP 0 rfl rfl 10 (by decide) (hts (.fieldLink RX10 34 "QuandleColoringsModel" "group" "[I") lk_X10_innerGroupOrder_34) (fun _ h9 => h9) rfl dX10_innerGroupOrder_50 ?_
      refine lv_iload_n hx hb dX10_innerGroupOrder_53 rfl (lv_at hl 2 rfl) ?_
      refine lv_iload_n hx hb dX10_innerGroupOrder_54 rfl (lv_at hl 2 rfl) ?_
      have hin := hw.1
      have hw := hw.2
      obtain ⟨a_group_10, ea_group_10⟩ : ∃ y : Nat → Int32, y = upd a_group x2.toNatClampNeg x2 := ⟨_, rfl⟩
      have hw := hw a_group_10 ea_group_10
      refine va_iast hx hb hE.1 hP hD hS 5 0 rfl rfl hin dX10_innerGroupOrder_55 (fun H locs hP hD hS => ?_)
      rw [← ea_group_10] at hP hD
      have hP : va_P G.1 vwCl (wd_X10_innerGroupOrder G h_this h_now h_history h_over h_order h_colors h_row h_three h_seen h_group f_edits f_total a_now a_over a_row a_seen a_group_10) H := hP
      have hD : va_D A (wd_X10_innerGroupOrder G h_this h_now h_history h_over h_order h_colors h_row h_three h_seen h_group f_edits f_total a_now a_over a_row a_seen a_group_10) := hD
      obtain ⟨x2_11, ex2_11⟩ : ∃ y : Int32, y = x2 + 1 := ⟨_, rfl⟩
      have hw := hw x2_11 ex2_11
      refine lv_iinc (v := x2_11) (lv' := [(2, .int x2_11), (0, .ref h_this), (1, .int x1)]) hx hb dX10_innerGroupOrder_56 hl (k := 2) rfl (by rw [ex2_11]; rfl) (by decide) rfl (fun ls hl => ?_)
      refine lv_goto (tgt := 44) hx hb dX10_innerGroupOrder_59 (by decide) ?_
      exact ih x2_11 a_group_10 hw _ _ _ hP hD hS (lv_sub hl [1, 2, 0] rfl)
set_option maxHeartbeats 4000000 in
set_option maxRecDepth 100000 in
theorem l_X10_innerGroupOrder_90 {p : Program} {l : Launch} {e : Env} {s : State} {m : MethodId} {args : Array Value} {below : List Frame} {meth : Method} {c : Code} {G : qn_G} {A : Nat → Prop} {h_this h_now h_history h_over h_order h_colors h_row h_three h_seen h_group : Nat} {f_edits : Int32} {f_total : Int32} {a_now : Nat → Int32} {a_over : Nat → Int32} {a_seen : Nat → Int32} {a_group : Nat → Int32} {x1 : Int32} {x2 : Int32} {x3 : Int32} {x4 : Int32} {post : Int32 → (Nat → Int32) → (Nat → Int32) → (Nat → Int32) → (Nat → Int32) → Prop} {KL90 : (Nat → Int32) → Prop} (C0 : qn_C p m c cX10_innerGroupOrder 7 s args wsX10_innerGroupOrder RX10 meth (some .int)) (hE : qn_EV G s) (hA : ∀ q, s.heap.size ≤ q → A q) (hKc : ∀ (a_row : Nat → Int32), KL90 a_row → ∀ (H : Heap) (locs : List Loc) (ls : Array Slot), va_P G.1 vwCl (wd_X10_innerGroupOrder G h_this h_now h_history h_over h_order h_colors h_row h_three h_seen h_group f_edits f_total a_now a_over a_row a_seen a_group) H → va_D A (wd_X10_innerGroupOrder G h_this h_now h_history h_over h_order h_colors h_row h_three h_seen h_group f_edits f_total a_now a_over a_row a_seen a_group) → va_S A s.heap H locs → lv_has ls 7 [(0, .ref h_this), (1, .int x1), (2, .int x2), (3, .int x3), (4, .int x4)] → W p l e (headSpec wsX10_innerGroupOrder rm_X10_innerGroupOrder).room s m args below meth c H locs 0 0 (MQ below (qn_QI G (fun (r : Int32) (u : (Nat → Int32) × (Nat → Int32) × (Nat → Int32) × (Nat → Int32)) => post r u.1 u.2.1 u.2.2.1 u.2.2.2) (fun u : (Nat → Int32) × (Nat → Int32) × (Nat → Int32) × (Nat → Int32) => wd_X10_innerGroupOrder G h_this h_now h_history h_over h_order h_colors h_row h_three h_seen h_group f_edits f_total a_now (u.1) (u.2.1) (u.2.2.1) (u.2.2.2)) A) args s 0 0 A) (F0 m 127 ls [])) :
    ∀ (fu : Nat) (x5 : Int32) (a_row : Nat → Int32), wp_X10_innerGroupOrder_L90 KL90 x1 x3 x4 a_now a_group fu x5 a_row → ∀ (H : Heap) (locs : List Loc) (ls : Array Slot), va_P G.1 vwCl (wd_X10_innerGroupOrder G h_this h_now h_history h_over h_order h_colors h_row h_three h_seen h_group f_edits f_total a_now a_over a_row a_seen a_group) H → va_D A (wd_X10_innerGroupOrder G h_this h_now h_history h_over h_order h_colors h_row h_three h_seen h_group f_edits f_total a_now a_over a_row a_seen a_group) → va_S A s.heap H locs → lv_has ls 7 [(0, .ref h_this), (1, .int x1), (2, .int x2), (3, .int x3), (4, .int x4), (5, .int x5)] → W p l e (headSpec wsX10_innerGroupOrder rm_X10_innerGroupOrder).room s m args below meth c H locs 0 0 (MQ below (qn_QI G (fun (r : Int32) (u : (Nat → Int32) × (Nat → Int32) × (Nat → Int32) × (Nat → Int32)) => post r u.1 u.2.1 u.2.2.1 u.2.2.2) (fun u : (Nat → Int32) × (Nat → Int32) × (Nat → Int32) × (Nat → Int32) => wd_X10_innerGroupOrder G h_this h_now h_history h_over h_order h_colors h_row h_three h_seen h_group f_edits f_total a_now (u.1) (u.2.1) (u.2.2.1) (u.2.2.2)) A) args s 0 0 A) (F0 m 90 ls []) := by
  obtain ⟨hx, hb, hml, hown, hts, hr, hlocks⟩ := id C0
  intro fu
  induction fu with
  | zero => intro x5 a_row hw; exact hw.elim
  | succ fu ih =>
    intro x5 a_row hw H locs ls hP hD hS hl
    refine lv_iload hx hb dX10_innerGroupOrder_90 (lv_at hl 5 rfl) ?_
    refine lv_iload_n hx hb dX10_innerGroupOrder_92 rfl (lv_at hl 1 rfl) ?_
    refine lv_icmp_ge (tgt := 127) hx hb dX10_innerGroupOrder_93 (by decide) (fun c_16 => ?_) (fun c_16 => ?_)
    · have hw := hw.1 c_16
      exact hKc a_row hw _ _ _ hP hD hS (lv_sub hl [0, 1, 2, 3, 4] rfl)
    · have hw := hw.2 c_16
      refine lv_aload_n hx hb dX10_innerGroupOrder_96 rfl (lv_at hl 0 rfl) ?_
      refine va_get (D := G.1) (ci := 10) (v := .ref h_row) (C := RX10) (T := TX10) (N := 11) hx hb hts in_X10_innerGroupOrder_X10 hown hE.1 hP 0 rfl rfl 7 (by decide) (hts (.fieldLink RX10 25 "QuandleColoringsModel" "row" "[I") lk_X10_innerGroupOrder_25) (fun _ h9 => h9) rfl dX10_innerGroupOrder_97 ?_
      refine lv_iload hx hb dX10_innerGroupOrder_100 (lv_at hl 5 rfl) ?_
      refine lv_aload_n hx hb dX10_innerGroupOrder_102 rfl (lv_at hl 0 rfl) ?_
      refine lv_aload_n hx hb dX10_innerGroupOrder_103 rfl (lv_at hl 0 rfl) ?_
      refine va_get (D := G.1) (ci := 10) (v := .ref h_group) (C := RX10) (T := TX10) (N := 11) hx hb hts in_X10_innerGroupOrder_X10 hown hE.1 hP 0 rfl rfl 10 (by decide) (hts (.fieldLink RX10 34 "QuandleColoringsModel" "group" "[I") lk_X10_innerGroupOrder_34) (fun _ h9 => h9) rfl dX10_innerGroupOrder_104 ?_
      refine lv_bipush (v := 6) hx hb dX10_innerGroupOrder_107 (by decide) ?_
      refine lv_iload_n hx hb dX10_innerGroupOrder_109 rfl (lv_at hl 3 rfl) ?_
      refine lv_imul hx hb dX10_innerGroupOrder_110 ?_
      refine lv_iload hx hb dX10_innerGroupOrder_111 (lv_at hl 5 rfl) ?_
      refine lv_iadd hx hb dX10_innerGroupOrder_113 ?_
      have hin := hw.1
      have hw := hw.2
      refine va_iald hx hb hE.1 hP 5 0 rfl rfl hin dX10_innerGroupOrder_114 ?_
      refine lv_iload hx hb dX10_innerGroupOrder_115 (lv_at hl 4 rfl) ?_
      have hC9 : ([0, 1]).map (fun i => (wd_X10_innerGroupOrder G h_this h_now h_history h_over h_order h_colors h_row h_three h_seen h_group f_edits f_total a_now a_over a_row a_seen a_group)[i]?) = (wd_X10_of G h_this h_now h_history h_over h_order h_colors h_row h_three h_seen h_group f_edits f_total a_now).map some := rfl
      refine qn_callI (wd := (fun u : Unit => wd_X10_innerGroupOrder G h_this h_now h_history h_over h_order h_colors h_row h_three h_seen h_group f_edits f_total a_now a_over a_row a_seen a_group)) [0, 1] (va_runV (As := [.int (a_group ((6 * x3) + x5).toNatClampNeg), .int x4]) (rest := [.int x5, .ref h_row]) ⟨hx, hb, hml, hown, hts⟩ (c_X10_of G _ h_this h_now h_history h_over h_order h_colors h_row h_three h_seen h_group f_edits f_total a_now (a_group ((6 * x3) + x5).toNatClampNeg) x4 hw) (cwV 2 hts gX10_innerGroupOrder_X10_of rfl rfl rfl (by decide +kernel) ⟨Nat.le_of_ble_eq_true rfl, Nat.le_of_ble_eq_true rfl⟩) (qn_preV hE hP hD [0, 1] hC9 (by decide +kernel) (ci := 10) rfl rfl) rfl rfl hl.1 rfl (lv_room (Nat.le_of_ble_eq_true rfl)) dX10_innerGroupOrder_117 ⟨Nat.le_of_ble_eq_true rfl, Nat.le_of_ble_eq_true rfl⟩) hP hD hS hA hC9 [some 0, some 1, none, none, none, none] (M := 6) rfl (by decide +kernel) (fun _ => rfl) (fun _ => rfl) (fun r_17 _ H locs hw hP hD hS => ?_)
      try dsimp only at hw
      have hP : va_P G.1 vwCl (wd_X10_innerGroupOrder G h_this h_now h_history h_over h_order h_colors h_row h_three h_seen h_group f_edits f_total a_now a_over a_row a_seen a_group) H := hP
      have hD : va_D A (wd_X10_innerGroupOrder G h_this h_now h_history h_over h_order h_colors h_row h_three h_seen h_group f_edits f_total a_now a_over a_row a_seen a_group) := hD
      have hin := hw.1
      have hw := hw.2
      obtain ⟨a_row_18, ea_row_18⟩ : ∃ y : Nat → Int32, y = upd a_row x5.toNatClampNeg r_17 := ⟨_, rfl⟩
      have hw := hw a_row_18 ea_row_18
      refine va_iast hx hb hE.1 hP hD hS 3 0 rfl rfl hin dX10_innerGroupOrder_120 (fun H locs hP hD hS => ?_)
      rw [← ea_row_18] at hP hD
      have hP : va_P G.1 vwCl (wd_X10_innerGroupOrder G h_this h_now h_history h_over h_order h_colors h_row h_three h_seen h_group f_edits f_total a_now a_over a_row_18 a_seen a_group) H := hP
      have hD : va_D A (wd_X10_innerGroupOrder G h_this h_now h_history h_over h_order h_colors h_row h_three h_seen h_group f_edits f_total a_now a_over a_row_18 a_seen a_group) := hD
      obtain ⟨x5_19, ex5_19⟩ : ∃ y : Int32, y = x5 + 1 := ⟨_, rfl⟩
      have hw := hw x5_19 ex5_19
      refine lv_iinc (v := x5_19) (lv' := [(5, .int x5_19), (0, .ref h_this), (1, .int x1), (2, .int x2), (3, .int x3), (4, .int x4)]) hx hb dX10_innerGroupOrder_121 hl (k := 5) rfl (by rw [ex5_19]; rfl) (by decide) rfl (fun ls hl => ?_)
      refine lv_goto (tgt := 90) hx hb dX10_innerGroupOrder_124 (by decide) ?_
      exact ih x5_19 a_row_18 hw _ _ _ hP hD hS (lv_sub hl [1, 2, 3, 4, 5, 0] rfl)
set_option maxHeartbeats 4000000 in
set_option maxRecDepth 100000 in
theorem l_X10_innerGroupOrder_155 {p : Program} {l : Launch} {e : Env} {s : State} {m : MethodId} {args : Array Value} {below : List Frame} {meth : Method} {c : Code} {G : qn_G} {A : Nat → Prop} {h_this h_now h_history h_over h_order h_colors h_row h_three h_seen h_group : Nat} {f_edits : Int32} {f_total : Int32} {a_now : Nat → Int32} {a_over : Nat → Int32} {a_row : Nat → Int32} {a_seen : Nat → Int32} {x1 : Int32} {x2 : Int32} {x3 : Int32} {x4 : Int32} {post : Int32 → (Nat → Int32) → (Nat → Int32) → (Nat → Int32) → (Nat → Int32) → Prop} {KL155 : (Nat → Int32) → Prop} (C0 : qn_C p m c cX10_innerGroupOrder 7 s args wsX10_innerGroupOrder RX10 meth (some .int)) (hE : qn_EV G s) (hA : ∀ q, s.heap.size ≤ q → A q) (hKc : ∀ (a_group : Nat → Int32), KL155 a_group → ∀ (H : Heap) (locs : List Loc) (ls : Array Slot), va_P G.1 vwCl (wd_X10_innerGroupOrder G h_this h_now h_history h_over h_order h_colors h_row h_three h_seen h_group f_edits f_total a_now a_over a_row a_seen a_group) H → va_D A (wd_X10_innerGroupOrder G h_this h_now h_history h_over h_order h_colors h_row h_three h_seen h_group f_edits f_total a_now a_over a_row a_seen a_group) → va_S A s.heap H locs → lv_has ls 7 [(0, .ref h_this), (1, .int x1), (2, .int x2), (3, .int x3), (4, .int x4)] → W p l e (headSpec wsX10_innerGroupOrder rm_X10_innerGroupOrder).room s m args below meth c H locs 0 0 (MQ below (qn_QI G (fun (r : Int32) (u : (Nat → Int32) × (Nat → Int32) × (Nat → Int32) × (Nat → Int32)) => post r u.1 u.2.1 u.2.2.1 u.2.2.2) (fun u : (Nat → Int32) × (Nat → Int32) × (Nat → Int32) × (Nat → Int32) => wd_X10_innerGroupOrder G h_this h_now h_history h_over h_order h_colors h_row h_three h_seen h_group f_edits f_total a_now (u.1) (u.2.1) (u.2.2.1) (u.2.2.2)) A) args s 0 0 A) (F0 m 186 ls [])) :
    ∀ (fu : Nat) (x6 : Int32) (a_group : Nat → Int32), wp_X10_innerGroupOrder_L155 KL155 x1 x2 a_row fu x6 a_group → ∀ (H : Heap) (locs : List Loc) (ls : Array Slot), va_P G.1 vwCl (wd_X10_innerGroupOrder G h_this h_now h_history h_over h_order h_colors h_row h_three h_seen h_group f_edits f_total a_now a_over a_row a_seen a_group) H → va_D A (wd_X10_innerGroupOrder G h_this h_now h_history h_over h_order h_colors h_row h_three h_seen h_group f_edits f_total a_now a_over a_row a_seen a_group) → va_S A s.heap H locs → lv_has ls 7 [(0, .ref h_this), (1, .int x1), (2, .int x2), (3, .int x3), (4, .int x4), (6, .int x6)] → W p l e (headSpec wsX10_innerGroupOrder rm_X10_innerGroupOrder).room s m args below meth c H locs 0 0 (MQ below (qn_QI G (fun (r : Int32) (u : (Nat → Int32) × (Nat → Int32) × (Nat → Int32) × (Nat → Int32)) => post r u.1 u.2.1 u.2.2.1 u.2.2.2) (fun u : (Nat → Int32) × (Nat → Int32) × (Nat → Int32) × (Nat → Int32) => wd_X10_innerGroupOrder G h_this h_now h_history h_over h_order h_colors h_row h_three h_seen h_group f_edits f_total a_now (u.1) (u.2.1) (u.2.2.1) (u.2.2.2)) A) args s 0 0 A) (F0 m 155 ls []) := by
  obtain ⟨hx, hb, hml, hown, hts, hr, hlocks⟩ := id C0
  intro fu
  induction fu with
  | zero => intro x6 a_group hw; exact hw.elim
  | succ fu ih =>
    intro x6 a_group hw H locs ls hP hD hS hl
    refine lv_iload hx hb dX10_innerGroupOrder_155 (lv_at hl 5 rfl) ?_
    refine lv_iload_n hx hb dX10_innerGroupOrder_157 rfl (lv_at hl 1 rfl) ?_
    refine lv_icmp_ge (tgt := 186) hx hb dX10_innerGroupOrder_158 (by decide) (fun c_25 => ?_) (fun c_25 => ?_)
    · have hw := hw.1 c_25
      exact hKc a_group hw _ _ _ hP hD hS (lv_sub hl [0, 1, 2, 3, 4] rfl)
    · have hw := hw.2 c_25
      refine lv_aload_n hx hb dX10_innerGroupOrder_161 rfl (lv_at hl 0 rfl) ?_
      refine va_get (D := G.1) (ci := 10) (v := .ref h_group) (C := RX10) (T := TX10) (N := 11) hx hb hts in_X10_innerGroupOrder_X10 hown hE.1 hP 0 rfl rfl 10 (by decide) (hts (.fieldLink RX10 34 "QuandleColoringsModel" "group" "[I") lk_X10_innerGroupOrder_34) (fun _ h9 => h9) rfl dX10_innerGroupOrder_162 ?_
      refine lv_bipush (v := 6) hx hb dX10_innerGroupOrder_165 (by decide) ?_
      refine lv_iload_n hx hb dX10_innerGroupOrder_167 rfl (lv_at hl 2 rfl) ?_
      refine lv_imul hx hb dX10_innerGroupOrder_168 ?_
      refine lv_iload hx hb dX10_innerGroupOrder_169 (lv_at hl 5 rfl) ?_
      refine lv_iadd hx hb dX10_innerGroupOrder_171 ?_
      refine lv_aload_n hx hb dX10_innerGroupOrder_172 rfl (lv_at hl 0 rfl) ?_
      refine va_get (D := G.1) (ci := 10) (v := .ref h_row) (C := RX10) (T := TX10) (N := 11) hx hb hts in_X10_innerGroupOrder_X10 hown hE.1 hP 0 rfl rfl 7 (by decide) (hts (.fieldLink RX10 25 "QuandleColoringsModel" "row" "[I") lk_X10_innerGroupOrder_25) (fun _ h9 => h9) rfl dX10_innerGroupOrder_173 ?_
      refine lv_iload hx hb dX10_innerGroupOrder_176 (lv_at hl 5 rfl) ?_
      have hin := hw.1
      have hw := hw.2
      refine va_iald hx hb hE.1 hP 3 0 rfl rfl hin dX10_innerGroupOrder_178 ?_
      have hin := hw.1
      have hw := hw.2
      obtain ⟨a_group_26, ea_group_26⟩ : ∃ y : Nat → Int32, y = upd a_group ((6 * x2) + x6).toNatClampNeg (a_row x6.toNatClampNeg) := ⟨_, rfl⟩
      have hw := hw a_group_26 ea_group_26
      refine va_iast hx hb hE.1 hP hD hS 5 0 rfl rfl hin dX10_innerGroupOrder_179 (fun H locs hP hD hS => ?_)
      rw [← ea_group_26] at hP hD
      have hP : va_P G.1 vwCl (wd_X10_innerGroupOrder G h_this h_now h_history h_over h_order h_colors h_row h_three h_seen h_group f_edits f_total a_now a_over a_row a_seen a_group_26) H := hP
      have hD : va_D A (wd_X10_innerGroupOrder G h_this h_now h_history h_over h_order h_colors h_row h_three h_seen h_group f_edits f_total a_now a_over a_row a_seen a_group_26) := hD
      obtain ⟨x6_27, ex6_27⟩ : ∃ y : Int32, y = x6 + 1 := ⟨_, rfl⟩
      have hw := hw x6_27 ex6_27
      refine lv_iinc (v := x6_27) (lv' := [(6, .int x6_27), (0, .ref h_this), (1, .int x1), (2, .int x2), (3, .int x3), (4, .int x4)]) hx hb dX10_innerGroupOrder_180 hl (k := 5) rfl (by rw [ex6_27]; rfl) (by decide) rfl (fun ls hl => ?_)
      refine lv_goto (tgt := 155) hx hb dX10_innerGroupOrder_183 (by decide) ?_
      exact ih x6_27 a_group_26 hw _ _ _ hP hD hS (lv_sub hl [1, 2, 3, 4, 5, 0] rfl)
set_option maxHeartbeats 4000000 in
set_option maxRecDepth 100000 in
theorem l_X10_innerGroupOrder_81 {p : Program} {l : Launch} {e : Env} {s : State} {m : MethodId} {args : Array Value} {below : List Frame} {meth : Method} {c : Code} {G : qn_G} {A : Nat → Prop} {h_this h_now h_history h_over h_order h_colors h_row h_three h_seen h_group : Nat} {f_edits : Int32} {f_total : Int32} {a_now : Nat → Int32} {a_over : Nat → Int32} {x1 : Int32} {x3 : Int32} {post : Int32 → (Nat → Int32) → (Nat → Int32) → (Nat → Int32) → (Nat → Int32) → Prop} {KL81 : Int32 → (Nat → Int32) → (Nat → Int32) → (Nat → Int32) → Prop} (C0 : qn_C p m c cX10_innerGroupOrder 7 s args wsX10_innerGroupOrder RX10 meth (some .int)) (hE : qn_EV G s) (hA : ∀ q, s.heap.size ≤ q → A q) (hKc : ∀ (x2 : Int32) (a_row : Nat → Int32) (a_seen : Nat → Int32) (a_group : Nat → Int32), KL81 x2 a_row a_seen a_group → ∀ (H : Heap) (locs : List Loc) (ls : Array Slot), va_P G.1 vwCl (wd_X10_innerGroupOrder G h_this h_now h_history h_over h_order h_colors h_row h_three h_seen h_group f_edits f_total a_now a_over a_row a_seen a_group) H → va_D A (wd_X10_innerGroupOrder G h_this h_now h_history h_over h_order h_colors h_row h_three h_seen h_group f_edits f_total a_now a_over a_row a_seen a_group) → va_S A s.heap H locs → lv_has ls 7 [(0, .ref h_this), (1, .int x1), (2, .int x2), (3, .int x3)] → W p l e (headSpec wsX10_innerGroupOrder rm_X10_innerGroupOrder).room s m args below meth c H locs 0 0 (MQ below (qn_QI G (fun (r : Int32) (u : (Nat → Int32) × (Nat → Int32) × (Nat → Int32) × (Nat → Int32)) => post r u.1 u.2.1 u.2.2.1 u.2.2.2) (fun u : (Nat → Int32) × (Nat → Int32) × (Nat → Int32) × (Nat → Int32) => wd_X10_innerGroupOrder G h_this h_now h_history h_over h_order h_colors h_row h_three h_seen h_group f_edits f_total a_now (u.1) (u.2.1) (u.2.2.1) (u.2.2.2)) A) args s 0 0 A) (F0 m 195 ls [])) :
    ∀ (fu : Nat) (x2 : Int32) (x4 : Int32) (a_row : Nat → Int32) (a_seen : Nat → Int32) (a_group : Nat → Int32), wp_X10_innerGroupOrder_L81 KL81 x1 x3 a_now fu x2 x4 a_row a_seen a_group → ∀ (H : Heap) (locs : List Loc) (ls : Array Slot), va_P G.1 vwCl (wd_X10_innerGroupOrder G h_this h_now h_history h_over h_order h_colors h_row h_three h_seen h_group f_edits f_total a_now a_over a_row a_seen a_group) H → va_D A (wd_X10_innerGroupOrder G h_this h_now h_history h_over h_order h_colors h_row h_three h_seen h_group f_edits f_total a_now a_over a_row a_seen a_group) → va_S A s.heap H locs → lv_has ls 7 [(0, .ref h_this), (1, .int x1), (2, .int x2), (3, .int x3), (4, .int x4)] → W p l e (headSpec wsX10_innerGroupOrder rm_X10_innerGroupOrder).room s m args below meth c H locs 0 0 (MQ below (qn_QI G (fun (r : Int32) (u : (Nat → Int32) × (Nat → Int32) × (Nat → Int32) × (Nat → Int32)) => post r u.1 u.2.1 u.2.2.1 u.2.2.2) (fun u : (Nat → Int32) × (Nat → Int32) × (Nat → Int32) × (Nat → Int32) => wd_X10_innerGroupOrder G h_this h_now h_history h_over h_order h_colors h_row h_three h_seen h_group f_edits f_total a_now (u.1) (u.2.1) (u.2.2.1) (u.2.2.2)) A) args s 0 0 A) (F0 m 81 ls []) := by
  obtain ⟨hx, hb, hml, hown, hts, hr, hlocks⟩ := id C0
  intro fu
  induction fu with
  | zero => intro x2 x4 a_row a_seen a_group hw; exact hw.elim
  | succ fu ih =>
    intro x2 x4 a_row a_seen a_group hw H locs ls hP hD hS hl
    refine lv_iload hx hb dX10_innerGroupOrder_81 (lv_at hl 4 rfl) ?_
    refine lv_iload_n hx hb dX10_innerGroupOrder_83 rfl (lv_at hl 1 rfl) ?_
    refine lv_icmp_ge (tgt := 195) hx hb dX10_innerGroupOrder_84 (by decide) (fun c_15 => ?_) (fun c_15 => ?_)
    · have hw := hw.1 c_15
      exact hKc x2 a_row a_seen a_group hw _ _ _ hP hD hS (lv_sub hl [0, 1, 2, 3] rfl)
    · have hw := hw.2 c_15
      refine lv_iconst (v := 0) hx hb dX10_innerGroupOrder_87 (by decide) ?_
      refine lv_istore (lv' := [(5, .int 0), (0, .ref h_this), (1, .int x1), (2, .int x2), (3, .int x3), (4, .int x4)]) hx hb dX10_innerGroupOrder_88 hl (by decide) rfl (fun ls hl => ?_)
      obtain ⟨fu_32, hw⟩ := hw
      refine l_X10_innerGroupOrder_90 (post := post) C0 hE hA (fun a_row_20 hw H locs ls hP hD hS hl => ?_) fu_32 0 a_row hw _ _ _ hP hD hS (lv_sub hl [1, 2, 3, 4, 5, 0] rfl)
      refine lv_aload_n hx hb dX10_innerGroupOrder_127 rfl (lv_at hl 0 rfl) ?_
      refine lv_iload_n hx hb dX10_innerGroupOrder_128 rfl (lv_at hl 1 rfl) ?_
      have hC9 : ([0, 3]).map (fun i => (wd_X10_innerGroupOrder G h_this h_now h_history h_over h_order h_colors h_row h_three h_seen h_group f_edits f_total a_now a_over a_row_20 a_seen a_group)[i]?) = (wd_X10_rank G h_this h_now h_history h_over h_order h_colors h_row h_three h_seen h_group f_edits f_total a_row_20).map some := rfl
      refine qn_callI (wd := (fun u : Unit => wd_X10_innerGroupOrder G h_this h_now h_history h_over h_order h_colors h_row h_three h_seen h_group f_edits f_total a_now a_over a_row_20 a_seen a_group)) [0, 3] (va_runV (As := [.int x1]) (rest := []) ⟨hx, hb, hml, hown, hts⟩ (c_X10_rank G _ h_this h_now h_history h_over h_order h_colors h_row h_three h_seen h_group f_edits f_total a_row_20 x1 hw) (cwV 1 hts gX10_innerGroupOrder_X10_rank rfl rfl rfl (by decide +kernel) ⟨Nat.le_of_ble_eq_true rfl, Nat.le_of_ble_eq_true rfl⟩) (qn_preV hE hP hD [0, 3] hC9 (by decide +kernel) (ci := 10) rfl rfl) rfl rfl hl.1 rfl (lv_room (Nat.le_of_ble_eq_true rfl)) dX10_innerGroupOrder_129 ⟨Nat.le_of_ble_eq_true rfl, Nat.le_of_ble_eq_true rfl⟩) hP hD hS hA hC9 [some 0, none, none, some 1, none, none] (M := 6) rfl (by decide +kernel) (fun _ => rfl) (fun _ => rfl) (fun r_21 _ H locs hw hP hD hS => ?_)
      try dsimp only at hw
      have hP : va_P G.1 vwCl (wd_X10_innerGroupOrder G h_this h_now h_history h_over h_order h_colors h_row h_three h_seen h_group f_edits f_total a_now a_over a_row_20 a_seen a_group) H := hP
      have hD : va_D A (wd_X10_innerGroupOrder G h_this h_now h_history h_over h_order h_colors h_row h_three h_seen h_group f_edits f_total a_now a_over a_row_20 a_seen a_group) := hD
      refine lv_istore (lv' := [(5, .int r_21), (0, .ref h_this), (1, .int x1), (2, .int x2), (3, .int x3), (4, .int x4)]) hx hb dX10_innerGroupOrder_132 hl (by decide) rfl (fun ls hl => ?_)
      refine lv_aload_n hx hb dX10_innerGroupOrder_134 rfl (lv_at hl 1 rfl) ?_
      refine va_get (D := G.1) (ci := 10) (v := .ref h_seen) (C := RX10) (T := TX10) (N := 11) hx hb hts in_X10_innerGroupOrder_X10 hown hE.1 hP 0 rfl rfl 9 (by decide) (hts (.fieldLink RX10 31 "QuandleColoringsModel" "seen" "[I") lk_X10_innerGroupOrder_31) (fun _ h9 => h9) rfl dX10_innerGroupOrder_135 ?_
      refine lv_iload hx hb dX10_innerGroupOrder_138 (lv_at hl 0 rfl) ?_
      have hin := hw.1
      have hw := hw.2
      refine va_iald hx hb hE.1 hP 4 0 rfl rfl hin dX10_innerGroupOrder_140 ?_
      refine lv_if_ne (tgt := 189) hx hb dX10_innerGroupOrder_141 (by decide) (fun c_22 => ?_) (fun c_22 => ?_)
      · have hw := hw.1 c_22
        obtain ⟨x4_23, ex4_23⟩ : ∃ y : Int32, y = x4 + 1 := ⟨_, rfl⟩
        have hw := hw x4_23 ex4_23
        refine lv_iinc (v := x4_23) (lv' := [(4, .int x4_23), (5, .int r_21), (0, .ref h_this), (1, .int x1), (2, .int x2), (3, .int x3)]) hx hb dX10_innerGroupOrder_189 hl (k := 5) rfl (by rw [ex4_23]; rfl) (by decide) rfl (fun ls hl => ?_)
        refine lv_goto (tgt := 81) hx hb dX10_innerGroupOrder_192 (by decide) ?_
        exact ih x2 x4_23 a_row_20 a_seen a_group hw _ _ _ hP hD hS (lv_sub hl [2, 3, 4, 5, 0] rfl)
      · have hw := hw.2 c_22
        refine lv_aload_n hx hb dX10_innerGroupOrder_144 rfl (lv_at hl 1 rfl) ?_
        refine va_get (D := G.1) (ci := 10) (v := .ref h_seen) (C := RX10) (T := TX10) (N := 11) hx hb hts in_X10_innerGroupOrder_X10 hown hE.1 hP 0 rfl rfl 9 (by decide) (hts (.fieldLink RX10 31 "QuandleColoringsModel" "seen" "[I") lk_X10_innerGroupOrder_31) (fun _ h9 => h9) rfl dX10_innerGroupOrder_145 ?_
        refine lv_iload hx hb dX10_innerGroupOrder_148 (lv_at hl 0 rfl) ?_
        refine lv_iconst (v := 1) hx hb dX10_innerGroupOrder_150 (by decide) ?_
        have hin := hw.1
        have hw := hw.2
        obtain ⟨a_seen_24, ea_seen_24⟩ : ∃ y : Nat → Int32, y = upd a_seen r_21.toNatClampNeg 1 := ⟨_, rfl⟩
        have hw := hw a_seen_24 ea_seen_24
        refine va_iast hx hb hE.1 hP hD hS 4 0 rfl rfl hin dX10_innerGroupOrder_151 (fun H locs hP hD hS => ?_)
        rw [← ea_seen_24] at hP hD
        have hP : va_P G.1 vwCl (wd_X10_innerGroupOrder G h_this h_now h_history h_over h_order h_colors h_row h_three h_seen h_group f_edits f_total a_now a_over a_row_20 a_seen_24 a_group) H := hP
        have hD : va_D A (wd_X10_innerGroupOrder G h_this h_now h_history h_over h_order h_colors h_row h_three h_seen h_group f_edits f_total a_now a_over a_row_20 a_seen_24 a_group) := hD
        refine lv_iconst (v := 0) hx hb dX10_innerGroupOrder_152 (by decide) ?_
        refine lv_istore (lv' := [(6, .int 0), (5, .int r_21), (0, .ref h_this), (1, .int x1), (2, .int x2), (3, .int x3), (4, .int x4)]) hx hb dX10_innerGroupOrder_153 hl (by decide) rfl (fun ls hl => ?_)
        obtain ⟨fu_31, hw⟩ := hw
        refine l_X10_innerGroupOrder_155 (post := post) C0 hE hA (fun a_group_28 hw H locs ls hP hD hS hl => ?_) fu_31 0 a_group hw _ _ _ hP hD hS (lv_sub hl [2, 3, 4, 5, 6, 0] rfl)
        obtain ⟨x2_29, ex2_29⟩ : ∃ y : Int32, y = x2 + 1 := ⟨_, rfl⟩
        have hw := hw x2_29 ex2_29
        refine lv_iinc (v := x2_29) (lv' := [(2, .int x2_29), (0, .ref h_this), (1, .int x1), (3, .int x3), (4, .int x4)]) hx hb dX10_innerGroupOrder_186 hl (k := 2) rfl (by rw [ex2_29]; rfl) (by decide) rfl (fun ls hl => ?_)
        obtain ⟨x4_30, ex4_30⟩ : ∃ y : Int32, y = x4 + 1 := ⟨_, rfl⟩
        have hw := hw x4_30 ex4_30
        refine lv_iinc (v := x4_30) (lv' := [(4, .int x4_30), (2, .int x2_29), (0, .ref h_this), (1, .int x1), (3, .int x3)]) hx hb dX10_innerGroupOrder_189 hl (k := 4) rfl (by rw [ex4_30]; rfl) (by decide) rfl (fun ls hl => ?_)
        refine lv_goto (tgt := 81) hx hb dX10_innerGroupOrder_192 (by decide) ?_
        exact ih x2_29 x4_30 a_row_20 a_seen_24 a_group_28 hw _ _ _ hP hD hS (lv_sub hl [2, 3, 1, 4, 0] rfl)
set_option maxHeartbeats 4000000 in
set_option maxRecDepth 100000 in
theorem l_X10_innerGroupOrder_73 {p : Program} {l : Launch} {e : Env} {s : State} {m : MethodId} {args : Array Value} {below : List Frame} {meth : Method} {c : Code} {G : qn_G} {A : Nat → Prop} {h_this h_now h_history h_over h_order h_colors h_row h_three h_seen h_group : Nat} {f_edits : Int32} {f_total : Int32} {a_now : Nat → Int32} {a_over : Nat → Int32} {x1 : Int32} {post : Int32 → (Nat → Int32) → (Nat → Int32) → (Nat → Int32) → (Nat → Int32) → Prop} {KL73 : Int32 → (Nat → Int32) → (Nat → Int32) → (Nat → Int32) → Prop} (C0 : qn_C p m c cX10_innerGroupOrder 7 s args wsX10_innerGroupOrder RX10 meth (some .int)) (hE : qn_EV G s) (hA : ∀ q, s.heap.size ≤ q → A q) (hKc : ∀ (x2 : Int32) (a_row : Nat → Int32) (a_seen : Nat → Int32) (a_group : Nat → Int32), KL73 x2 a_row a_seen a_group → ∀ (H : Heap) (locs : List Loc) (ls : Array Slot), va_P G.1 vwCl (wd_X10_innerGroupOrder G h_this h_now h_history h_over h_order h_colors h_row h_three h_seen h_group f_edits f_total a_now a_over a_row a_seen a_group) H → va_D A (wd_X10_innerGroupOrder G h_this h_now h_history h_over h_order h_colors h_row h_three h_seen h_group f_edits f_total a_now a_over a_row a_seen a_group) → va_S A s.heap H locs → lv_has ls 7 [(2, .int x2)] → W p l e (headSpec wsX10_innerGroupOrder rm_X10_innerGroupOrder).room s m args below meth c H locs 0 0 (MQ below (qn_QI G (fun (r : Int32) (u : (Nat → Int32) × (Nat → Int32) × (Nat → Int32) × (Nat → Int32)) => post r u.1 u.2.1 u.2.2.1 u.2.2.2) (fun u : (Nat → Int32) × (Nat → Int32) × (Nat → Int32) × (Nat → Int32) => wd_X10_innerGroupOrder G h_this h_now h_history h_over h_order h_colors h_row h_three h_seen h_group f_edits f_total a_now (u.1) (u.2.1) (u.2.2.1) (u.2.2.2)) A) args s 0 0 A) (F0 m 201 ls [])) :
    ∀ (fu : Nat) (x2 : Int32) (x3 : Int32) (a_row : Nat → Int32) (a_seen : Nat → Int32) (a_group : Nat → Int32), wp_X10_innerGroupOrder_L73 KL73 x1 a_now fu x2 x3 a_row a_seen a_group → ∀ (H : Heap) (locs : List Loc) (ls : Array Slot), va_P G.1 vwCl (wd_X10_innerGroupOrder G h_this h_now h_history h_over h_order h_colors h_row h_three h_seen h_group f_edits f_total a_now a_over a_row a_seen a_group) H → va_D A (wd_X10_innerGroupOrder G h_this h_now h_history h_over h_order h_colors h_row h_three h_seen h_group f_edits f_total a_now a_over a_row a_seen a_group) → va_S A s.heap H locs → lv_has ls 7 [(0, .ref h_this), (1, .int x1), (2, .int x2), (3, .int x3)] → W p l e (headSpec wsX10_innerGroupOrder rm_X10_innerGroupOrder).room s m args below meth c H locs 0 0 (MQ below (qn_QI G (fun (r : Int32) (u : (Nat → Int32) × (Nat → Int32) × (Nat → Int32) × (Nat → Int32)) => post r u.1 u.2.1 u.2.2.1 u.2.2.2) (fun u : (Nat → Int32) × (Nat → Int32) × (Nat → Int32) × (Nat → Int32) => wd_X10_innerGroupOrder G h_this h_now h_history h_over h_order h_colors h_row h_three h_seen h_group f_edits f_total a_now (u.1) (u.2.1) (u.2.2.1) (u.2.2.2)) A) args s 0 0 A) (F0 m 73 ls []) := by
  obtain ⟨hx, hb, hml, hown, hts, hr, hlocks⟩ := id C0
  intro fu
  induction fu with
  | zero => intro x2 x3 a_row a_seen a_group hw; exact hw.elim
  | succ fu ih =>
    intro x2 x3 a_row a_seen a_group hw H locs ls hP hD hS hl
    refine lv_iload_n hx hb dX10_innerGroupOrder_73 rfl (lv_at hl 3 rfl) ?_
    refine lv_iload_n hx hb dX10_innerGroupOrder_74 rfl (lv_at hl 2 rfl) ?_
    refine lv_icmp_ge (tgt := 201) hx hb dX10_innerGroupOrder_75 (by decide) (fun c_14 => ?_) (fun c_14 => ?_)
    · have hw := hw.1 c_14
      exact hKc x2 a_row a_seen a_group hw _ _ _ hP hD hS (lv_sub hl [2] rfl)
    · have hw := hw.2 c_14
      refine lv_iconst (v := 0) hx hb dX10_innerGroupOrder_78 (by decide) ?_
      refine lv_istore (lv' := [(4, .int 0), (0, .ref h_this), (1, .int x1), (2, .int x2), (3, .int x3)]) hx hb dX10_innerGroupOrder_79 hl (by decide) rfl (fun ls hl => ?_)
      obtain ⟨fu_38, hw⟩ := hw
      refine l_X10_innerGroupOrder_81 (post := post) C0 hE hA (fun x2_33 a_row_34 a_seen_35 a_group_36 hw H locs ls hP hD hS hl => ?_) fu_38 x2 0 a_row a_seen a_group hw _ _ _ hP hD hS (lv_sub hl [1, 2, 3, 4, 0] rfl)
      obtain ⟨x3_37, ex3_37⟩ : ∃ y : Int32, y = x3 + 1 := ⟨_, rfl⟩
      have hw := hw x3_37 ex3_37
      refine lv_iinc (v := x3_37) (lv' := [(3, .int x3_37), (0, .ref h_this), (1, .int x1), (2, .int x2_33)]) hx hb dX10_innerGroupOrder_195 hl (k := 3) rfl (by rw [ex3_37]; rfl) (by decide) rfl (fun ls hl => ?_)
      refine lv_goto (tgt := 73) hx hb dX10_innerGroupOrder_198 (by decide) ?_
      exact ih x2_33 x3_37 a_row_34 a_seen_35 a_group_36 hw _ _ _ hP hD hS (lv_sub hl [1, 2, 3, 0] rfl)
set_option maxHeartbeats 4000000 in
set_option maxRecDepth 100000 in
theorem c_X10_innerGroupOrder {l : Launch} (G : qn_G) (sz : Nat) (h_this h_now h_history h_over h_order h_colors h_row h_three h_seen h_group : Nat) (f_edits : Int32) (f_total : Int32) (a_now : Nat → Int32) (a_over : Nat → Int32) (a_row : Nat → Int32) (a_seen : Nat → Int32) (a_group : Nat → Int32) {post : Int32 → (Nat → Int32) → (Nat → Int32) → (Nat → Int32) → (Nat → Int32) → Prop} (hw : wp_X10_innerGroupOrder post a_now a_over a_row a_seen a_group) : Met l yX10_innerGroupOrder wsX10_innerGroupOrder rm_X10_innerGroupOrder (qn_PC G [.ref h_this] sz (wd_X10_innerGroupOrder G h_this h_now h_history h_over h_order h_colors h_row h_three h_seen h_group f_edits f_total a_now a_over a_row a_seen a_group)) (qn_QI G (fun (r : Int32) (u : (Nat → Int32) × (Nat → Int32) × (Nat → Int32) × (Nat → Int32)) => post r u.1 u.2.1 u.2.2.1 u.2.2.2) (fun u : (Nat → Int32) × (Nat → Int32) × (Nat → Int32) × (Nat → Int32) => wd_X10_innerGroupOrder G h_this h_now h_history h_over h_order h_colors h_row h_three h_seen h_group f_edits f_total a_now (u.1) (u.2.1) (u.2.2.1) (u.2.2.2)) (va_A (wd_X10_innerGroupOrder G h_this h_now h_history h_over h_order h_colors h_row h_three h_seen h_group f_edits f_total a_now a_over a_row a_seen a_group) sz)) 0 0 (va_A (wd_X10_innerGroupOrder G h_this h_now h_history h_over h_order h_colors h_row h_three h_seen h_group f_edits f_total a_now a_over a_row a_seen a_group) sz) := by
  refine Met.ofW (cc := cX10_innerGroupOrder) (maxL := 7) (ret := (some .int)) (by decide) rfl ?_
  intro p e s m args below meth c s₁ B hml hv
  obtain ⟨rfl, hsz, hP, hE, hD0⟩ := hv
  have C0 : qn_C p m c cX10_innerGroupOrder 7 s _ wsX10_innerGroupOrder RX10 meth (some .int) := qn_C0 B hml
  obtain ⟨hx, hb, -, hown, hts, hr, hlocks⟩ := id C0
  subst hsz
  have hD := hD0.self (sz := s.heap.size)
  generalize hAe : va_A (wd_X10_innerGroupOrder G h_this h_now h_history h_over h_order h_colors h_row h_three h_seen h_group f_edits f_total a_now a_over a_row a_seen a_group) s.heap.size = A at hD ⊢
  have hA : ∀ q : Nat, s.heap.size ≤ q → A q := fun q h => by rw [← hAe]; exact Or.inr h
  clear hAe
  have hS : va_S A s.heap s.heap [] := va_S.rf
  have hl := lv_entry ([.ref h_this]) (n := 7) (Nat.le_of_ble_eq_true rfl)
  rw [lg_entry_eq]
  generalize (lg_sl ([.ref h_this]) ++ List.replicate (7 - (lg_sl ([.ref h_this])).length) Slot.unset).toArray = ls at hl ⊢
  have hl : lv_has ls 7 [(0, .ref h_this)] := hl
  have hP : va_P G.1 vwCl (wd_X10_innerGroupOrder G h_this h_now h_history h_over h_order h_colors h_row h_three h_seen h_group f_edits f_total a_now a_over a_row a_seen a_group) s.heap := hP
  refine lv_aload_n hx hb dX10_innerGroupOrder_0 rfl (lv_at hl 0 rfl) ?_
  have hC9 : ([0, 1, 2]).map (fun i => (wd_X10_innerGroupOrder G h_this h_now h_history h_over h_order h_colors h_row h_three h_seen h_group f_edits f_total a_now a_over a_row a_seen a_group)[i]?) = (wd_X10_column G h_this h_now h_history h_over h_order h_colors h_row h_three h_seen h_group f_edits f_total a_now a_over).map some := rfl
  refine qn_callI (wd := (fun u : (Nat → Int32) => wd_X10_innerGroupOrder G h_this h_now h_history h_over h_order h_colors h_row h_three h_seen h_group f_edits f_total a_now u a_row a_seen a_group)) [0, 1, 2] (va_runV (As := []) (rest := []) ⟨hx, hb, hml, hown, hts⟩ (c_X10_column G _ h_this h_now h_history h_over h_order h_colors h_row h_three h_seen h_group f_edits f_total a_now a_over hw) (cwV 0 hts gX10_innerGroupOrder_X10_column rfl rfl rfl (by decide +kernel) ⟨Nat.le_of_ble_eq_true rfl, Nat.le_of_ble_eq_true rfl⟩) (qn_preV hE hP hD [0, 1, 2] hC9 (by decide +kernel) (ci := 10) rfl rfl) rfl rfl hl.1 rfl (lv_room (Nat.le_of_ble_eq_true rfl)) dX10_innerGroupOrder_1 ⟨Nat.le_of_ble_eq_true rfl, Nat.le_of_ble_eq_true rfl⟩) hP hD hS hA hC9 [some 0, some 1, some 2, none, none, none] (M := 6) rfl (by decide +kernel) (fun _ => rfl) (fun _ => rfl) (fun r_2 a_over_1 H locs hw hP hD hS => ?_)
  try dsimp only at hw
  have hP : va_P G.1 vwCl (wd_X10_innerGroupOrder G h_this h_now h_history h_over h_order h_colors h_row h_three h_seen h_group f_edits f_total a_now a_over_1 a_row a_seen a_group) H := hP
  have hD : va_D A (wd_X10_innerGroupOrder G h_this h_now h_history h_over h_order h_colors h_row h_three h_seen h_group f_edits f_total a_now a_over_1 a_row a_seen a_group) := hD
  refine lv_bipush (v := (-4)) hx hb dX10_innerGroupOrder_4 (by decide) ?_
  refine lv_icmp_eq (tgt := 12) hx hb dX10_innerGroupOrder_6 (by decide) (fun c_3 => ?_) (fun c_3 => ?_)
  · have hw := hw.1 c_3
    refine lv_aload_n hx hb dX10_innerGroupOrder_12 rfl (lv_at hl 0 rfl) ?_
    refine va_get (D := G.1) (ci := 10) (v := .ref h_now) (C := RX10) (T := TX10) (N := 11) hx hb hts in_X10_innerGroupOrder_X10 hown hE.1 hP 0 rfl rfl 0 (by decide) (hts (.fieldLink RX10 7 "QuandleColoringsModel" "now" "[I") lk_X10_innerGroupOrder_7) (fun _ h9 => h9) rfl dX10_innerGroupOrder_13 ?_
    refine lv_bipush (v := 84) hx hb dX10_innerGroupOrder_16 (by decide) ?_
    have hin := hw.1
    have hw := hw.2
    refine va_iald hx hb hE.1 hP 1 0 rfl rfl hin dX10_innerGroupOrder_18 ?_
    refine lv_topi (fun x1_4 ex1_4 => ?_)
    have hw := hw x1_4 ex1_4
    refine lv_istore_n (lv' := [(1, .int x1_4), (0, .ref h_this)]) hx hb dX10_innerGroupOrder_19 rfl hl (by decide) rfl (fun ls hl => ?_)
    refine lv_iconst (v := 0) hx hb dX10_innerGroupOrder_20 (by decide) ?_
    refine lv_istore_n (lv' := [(2, .int 0), (1, .int x1_4), (0, .ref h_this)]) hx hb dX10_innerGroupOrder_21 rfl hl (by decide) rfl (fun ls hl => ?_)
    obtain ⟨fu_45, hw⟩ := hw
    refine l_X10_innerGroupOrder_22 (post := post) C0 hE hA (fun a_seen_8 hw H locs ls hP hD hS hl => ?_) fu_45 0 a_seen hw _ _ _ hP hD hS (lv_sub hl [2, 1, 0] rfl)
    refine lv_iconst (v := 0) hx hb dX10_innerGroupOrder_42 (by decide) ?_
    refine lv_istore_n (lv' := [(2, .int 0), (0, .ref h_this), (1, .int x1_4)]) hx hb dX10_innerGroupOrder_43 rfl hl (by decide) rfl (fun ls hl => ?_)
    obtain ⟨fu_44, hw⟩ := hw
    refine l_X10_innerGroupOrder_44 (post := post) C0 hE hA (fun a_group_12 hw H locs ls hP hD hS hl => ?_) fu_44 0 a_group hw _ _ _ hP hD hS (lv_sub hl [1, 2, 0] rfl)
    refine lv_aload_n hx hb dX10_innerGroupOrder_62 rfl (lv_at hl 0 rfl) ?_
    refine va_get (D := G.1) (ci := 10) (v := .ref h_seen) (C := RX10) (T := TX10) (N := 11) hx hb hts in_X10_innerGroupOrder_X10 hown hE.1 hP 0 rfl rfl 9 (by decide) (hts (.fieldLink RX10 31 "QuandleColoringsModel" "seen" "[I") lk_X10_innerGroupOrder_31) (fun _ h9 => h9) rfl dX10_innerGroupOrder_63 ?_
    refine lv_iconst (v := 0) hx hb dX10_innerGroupOrder_66 (by decide) ?_
    refine lv_iconst (v := 1) hx hb dX10_innerGroupOrder_67 (by decide) ?_
    have hin := hw.1
    have hw := hw.2
    obtain ⟨a_seen_13, ea_seen_13⟩ : ∃ y : Nat → Int32, y = upd a_seen_8 (0 : Int32).toNatClampNeg 1 := ⟨_, rfl⟩
    have hw := hw a_seen_13 ea_seen_13
    refine va_iast hx hb hE.1 hP hD hS 4 0 rfl rfl hin dX10_innerGroupOrder_68 (fun H locs hP hD hS => ?_)
    rw [← ea_seen_13] at hP hD
    have hP : va_P G.1 vwCl (wd_X10_innerGroupOrder G h_this h_now h_history h_over h_order h_colors h_row h_three h_seen h_group f_edits f_total a_now a_over_1 a_row a_seen_13 a_group_12) H := hP
    have hD : va_D A (wd_X10_innerGroupOrder G h_this h_now h_history h_over h_order h_colors h_row h_three h_seen h_group f_edits f_total a_now a_over_1 a_row a_seen_13 a_group_12) := hD
    refine lv_iconst (v := 1) hx hb dX10_innerGroupOrder_69 (by decide) ?_
    refine lv_istore_n (lv' := [(2, .int 1), (0, .ref h_this), (1, .int x1_4)]) hx hb dX10_innerGroupOrder_70 rfl hl (by decide) rfl (fun ls hl => ?_)
    refine lv_iconst (v := 0) hx hb dX10_innerGroupOrder_71 (by decide) ?_
    refine lv_istore_n (lv' := [(3, .int 0), (2, .int 1), (0, .ref h_this), (1, .int x1_4)]) hx hb dX10_innerGroupOrder_72 rfl hl (by decide) rfl (fun ls hl => ?_)
    obtain ⟨fu_43, hw⟩ := hw
    refine l_X10_innerGroupOrder_73 (post := post) C0 hE hA (fun x2_39 a_row_40 a_seen_41 a_group_42 hw H locs ls hP hD hS hl => ?_) fu_43 1 0 a_row a_seen_13 a_group_12 hw _ _ _ hP hD hS (lv_sub hl [2, 3, 1, 0] rfl)
    refine lv_iload_n hx hb dX10_innerGroupOrder_201 rfl (lv_at hl 0 rfl) ?_
    exact W.iret (v := x2_39) hx hb hr (fun t ht hW => ⟨⟨x2_39, (a_over_1, a_row_40, a_seen_41, a_group_42), rfl, hw, by rw [ht]; exact hP, hD⟩, hS.F ht⟩) hS.2.2 dX10_innerGroupOrder_202
  · have hw := hw.2 c_3
    refine lv_bipush (v := (-2)) hx hb dX10_innerGroupOrder_9 (by decide) ?_
    exact W.iret (v := (-2)) hx hb hr (fun t ht hW => ⟨⟨(-2), (a_over_1, a_row, a_seen, a_group), rfl, hw, by rw [ht]; exact hP, hD⟩, hS.F ht⟩) hS.2.2 dX10_innerGroupOrder_11
-- QuandleColoringsModel.isAutomorphism()Z
abbrev rm_X10_isAutomorphism : Room := { frames := 1, cells := 0, slots := 0, locals := 22 }
abbrev wd_X10_isAutomorphism (G : qn_G) (h_this h_now h_history h_over h_order h_colors h_row h_three h_seen h_group : Nat) (f_edits : Int32) (f_total : Int32) (a_now : Nat → Int32) (a_order : Nat → Int32) : va_W := [(h_this, .inr (10, [.ref h_now, .ref h_history, .int f_edits, .ref h_over, .ref h_order, .ref h_colors, .int f_total, .ref h_row, .ref h_three, .ref h_seen, .ref h_group])), (h_now, .inl (G.2.1, 88, .inl a_now)), (h_order, .inl (G.2.1, 6, .inl a_order))]
theorem in_X10_isAutomorphism_X10 : ∀ w ∈ u_ws RX10 TX10 11, w ∈ wsX10_isAutomorphism := by decide +kernel
theorem lk_X10_isAutomorphism_19 : Cond.fieldLink RX10 19 "QuandleColoringsModel" "order" "[I" ∈ wsX10_isAutomorphism := by decide +kernel
theorem lk_X10_isAutomorphism_7 : Cond.fieldLink RX10 7 "QuandleColoringsModel" "now" "[I" ∈ wsX10_isAutomorphism := by decide +kernel
def wp_X10_isAutomorphism_L17 (KL17 : Int32 → Prop) (x2 : Int32) (a_now : Nat → Int32) (a_order : Nat → Int32) : Nat → Int32 → Int32 → Prop
  | 0 => fun _ _ => False
  | fu + 1 => fun x1 x3 => (vp_in 84 88 ∧ (((a_now (84 : Int32).toNatClampNeg) ≤ x3 → (KL17 x1)) ∧ (¬ (a_now (84 : Int32).toNatClampNeg) ≤ x3 → ((x1 = 0 → (KL17 x1)) ∧ (¬ x1 = 0 → (wp_X10_of (fun (r_4 : Int32) => (vp_in r_4 6 ∧ (vp_in x2 6 ∧ (vp_in x3 6 ∧ (wp_X10_of (fun (r_5 : Int32) => ((¬ (a_order r_4.toNatClampNeg) = r_5 → (∀ x3_7 : Int32, x3_7 = x3 + 1 → ((wp_X10_isAutomorphism_L17 KL17 x2 a_now a_order fu) 0 x3_7))) ∧ ((a_order r_4.toNatClampNeg) = r_5 → (∀ x3_8 : Int32, x3_8 = x3 + 1 → ((wp_X10_isAutomorphism_L17 KL17 x2 a_now a_order fu) 1 x3_8))))) a_now (a_order x2.toNatClampNeg) (a_order x3.toNatClampNeg)))))) a_now x2 x3))))))
def wp_X10_isAutomorphism_L4 (KL4 : Int32 → Prop) (a_now : Nat → Int32) (a_order : Nat → Int32) : Nat → Int32 → Int32 → Prop
  | 0 => fun _ _ => False
  | fu + 1 => fun x1 x2 => (vp_in 84 88 ∧ (((a_now (84 : Int32).toNatClampNeg) ≤ x2 → (KL4 x1)) ∧ (¬ (a_now (84 : Int32).toNatClampNeg) ≤ x2 → (∃ fu_11 : Nat, wp_X10_isAutomorphism_L17 (fun (x1_9 : Int32) => (∀ x2_10 : Int32, x2_10 = x2 + 1 → ((wp_X10_isAutomorphism_L4 KL4 a_now a_order fu) x1_9 x2_10))) x2 a_now a_order fu_11 x1 0))))
def wp_X10_isAutomorphism (post : Int32 → Prop) (a_now : Nat → Int32) (a_order : Nat → Int32) : Prop := (∃ fu_13 : Nat, wp_X10_isAutomorphism_L4 (fun (x1_12 : Int32) => ((x1_12 = 0 ∨ x1_12 = 1) ∧ post x1_12)) a_now a_order fu_13 1 0)
set_option maxHeartbeats 4000000 in
set_option maxRecDepth 100000 in
theorem l_X10_isAutomorphism_17 {p : Program} {l : Launch} {e : Env} {s : State} {m : MethodId} {args : Array Value} {below : List Frame} {meth : Method} {c : Code} {G : qn_G} {A : Nat → Prop} {h_this h_now h_history h_over h_order h_colors h_row h_three h_seen h_group : Nat} {f_edits : Int32} {f_total : Int32} {a_now : Nat → Int32} {a_order : Nat → Int32} {x2 : Int32} {post : Int32 → Prop} {KL17 : Int32 → Prop} (C0 : qn_C p m c cX10_isAutomorphism 4 s args wsX10_isAutomorphism RX10 meth (some .boolean)) (hE : qn_EV G s) (hA : ∀ q, s.heap.size ≤ q → A q) (hKc : ∀ (x1 : Int32), KL17 x1 → ∀ (H : Heap) (locs : List Loc) (ls : Array Slot), va_P G.1 vwCl (wd_X10_isAutomorphism G h_this h_now h_history h_over h_order h_colors h_row h_three h_seen h_group f_edits f_total a_now a_order) H → va_D A (wd_X10_isAutomorphism G h_this h_now h_history h_over h_order h_colors h_row h_three h_seen h_group f_edits f_total a_now a_order) → va_S A s.heap H locs → lv_has ls 4 [(0, .ref h_this), (1, .int x1), (2, .int x2)] → W p l e (headSpec wsX10_isAutomorphism rm_X10_isAutomorphism).room s m args below meth c H locs 0 0 (MQ below (qn_QI G (fun (r : Int32) (u : Unit) => post r) (fun u : Unit => wd_X10_isAutomorphism G h_this h_now h_history h_over h_order h_colors h_row h_three h_seen h_group f_edits f_total a_now a_order) A) args s 0 0 A) (F0 m 74 ls [])) :
    ∀ (fu : Nat) (x1 : Int32) (x3 : Int32), wp_X10_isAutomorphism_L17 KL17 x2 a_now a_order fu x1 x3 → ∀ (H : Heap) (locs : List Loc) (ls : Array Slot), va_P G.1 vwCl (wd_X10_isAutomorphism G h_this h_now h_history h_over h_order h_colors h_row h_three h_seen h_group f_edits f_total a_now a_order) H → va_D A (wd_X10_isAutomorphism G h_this h_now h_history h_over h_order h_colors h_row h_three h_seen h_group f_edits f_total a_now a_order) → va_S A s.heap H locs → lv_has ls 4 [(0, .ref h_this), (1, .int x1), (2, .int x2), (3, .int x3)] → W p l e (headSpec wsX10_isAutomorphism rm_X10_isAutomorphism).room s m args below meth c H locs 0 0 (MQ below (qn_QI G (fun (r : Int32) (u : Unit) => post r) (fun u : Unit => wd_X10_isAutomorphism G h_this h_now h_history h_over h_order h_colors h_row h_three h_seen h_group f_edits f_total a_now a_order) A) args s 0 0 A) (F0 m 17 ls []) := by
  obtain ⟨hx, hb, hml, hown, hts, hr, hlocks⟩ := id C0
  intro fu
  induction fu with
  | zero => intro x1 x3 hw; exact hw.elim
  | succ fu ih =>
    intro x1 x3 hw H locs ls hP hD hS hl
    refine lv_iload_n hx hb dX10_isAutomorphism_17 rfl (lv_at hl 3 rfl) ?_
    refine lv_aload_n hx hb dX10_isAutomorphism_18 rfl (lv_at hl 0 rfl) ?_
    refine va_get (D := G.1) (ci := 10) (v := .ref h_now) (C := RX10) (T := TX10) (N := 11) hx hb hts in_X10_isAutomorphism_X10 hown hE.1 hP 0 rfl rfl 0 (by decide) (hts (.fieldLink RX10 7 "QuandleColoringsModel" "now" "[I") lk_X10_isAutomorphism_7) (fun _ h9 => h9) rfl dX10_isAutomorphism_19 ?_
    refine lv_bipush (v := 84) hx hb dX10_isAutomorphism_22 (by decide) ?_
    have hin := hw.1
    have hw := hw.2
    refine va_iald hx hb hE.1 hP 1 0 rfl rfl hin dX10_isAutomorphism_24 ?_
    refine lv_icmp_ge (tgt := 74) hx hb dX10_isAutomorphism_25 (by decide) (fun c_2 => ?_) (fun c_2 => ?_)
    · have hw := hw.1 c_2
      exact hKc x1 hw _ _ _ hP hD hS (lv_sub hl [0, 1, 2] rfl)
    · have hw := hw.2 c_2
      refine lv_iload_n hx hb dX10_isAutomorphism_28 rfl (lv_at hl 1 rfl) ?_
      refine lv_if_eq (tgt := 74) hx hb dX10_isAutomorphism_29 (by decide) (fun c_3 => ?_) (fun c_3 => ?_)
      · have hw := hw.1 c_3
        exact hKc x1 hw _ _ _ hP hD hS (lv_sub hl [0, 1, 2] rfl)
      · have hw := hw.2 c_3
        refine lv_aload_n hx hb dX10_isAutomorphism_32 rfl (lv_at hl 0 rfl) ?_
        refine va_get (D := G.1) (ci := 10) (v := .ref h_order) (C := RX10) (T := TX10) (N := 11) hx hb hts in_X10_isAutomorphism_X10 hown hE.1 hP 0 rfl rfl 4 (by decide) (hts (.fieldLink RX10 19 "QuandleColoringsModel" "order" "[I") lk_X10_isAutomorphism_19) (fun _ h9 => h9) rfl dX10_isAutomorphism_33 ?_
        refine lv_aload_n hx hb dX10_isAutomorphism_36 rfl (lv_at hl 0 rfl) ?_
        refine lv_iload_n hx hb dX10_isAutomorphism_37 rfl (lv_at hl 2 rfl) ?_
        refine lv_iload_n hx hb dX10_isAutomorphism_38 rfl (lv_at hl 3 rfl) ?_
        have hC9 : ([0, 1]).map (fun i => (wd_X10_isAutomorphism G h_this h_now h_history h_over h_order h_colors h_row h_three h_seen h_group f_edits f_total a_now a_order)[i]?) = (wd_X10_of G h_this h_now h_history h_over h_order h_colors h_row h_three h_seen h_group f_edits f_total a_now).map some := rfl
        refine qn_callI (wd := (fun u : Unit => wd_X10_isAutomorphism G h_this h_now h_history h_over h_order h_colors h_row h_three h_seen h_group f_edits f_total a_now a_order)) [0, 1] (va_runV (As := [.int x2, .int x3]) (rest := [.ref h_order]) ⟨hx, hb, hml, hown, hts⟩ (c_X10_of G _ h_this h_now h_history h_over h_order h_colors h_row h_three h_seen h_group f_edits f_total a_now x2 x3 hw) (cwV 2 hts gX10_isAutomorphism_X10_of rfl rfl rfl (by decide +kernel) ⟨Nat.le_of_ble_eq_true rfl, Nat.le_of_ble_eq_true rfl⟩) (qn_preV hE hP hD [0, 1] hC9 (by decide +kernel) (ci := 10) rfl rfl) rfl rfl hl.1 rfl (lv_room (Nat.le_of_ble_eq_true rfl)) dX10_isAutomorphism_39 ⟨Nat.le_of_ble_eq_true rfl, Nat.le_of_ble_eq_true rfl⟩) hP hD hS hA hC9 [some 0, some 1, none] (M := 3) rfl (by decide +kernel) (fun _ => rfl) (fun _ => rfl) (fun r_4 _ H locs hw hP hD hS => ?_)
        try dsimp only at hw
        have hP : va_P G.1 vwCl (wd_X10_isAutomorphism G h_this h_now h_history h_over h_order h_colors h_row h_three h_seen h_group f_edits f_total a_now a_order) H := hP
        have hD : va_D A (wd_X10_isAutomorphism G h_this h_now h_history h_over h_order h_colors h_row h_three h_seen h_group f_edits f_total a_now a_order) := hD
        have hin := hw.1
        have hw := hw.2
        refine va_iald hx hb hE.1 hP 2 0 rfl rfl hin dX10_isAutomorphism_42 ?_
        refine lv_aload_n hx hb dX10_isAutomorphism_43 rfl (lv_at hl 0 rfl) ?_
        refine lv_aload_n hx hb dX10_isAutomorphism_44 rfl (lv_at hl 0 rfl) ?_
        refine va_get (D := G.1) (ci := 10) (v := .ref h_order) (C := RX10) (T := TX10) (N := 11) hx hb hts in_X10_isAutomorphism_X10 hown hE.1 hP 0 rfl rfl 4 (by decide) (hts (.fieldLink RX10 19 "QuandleColoringsModel" "order" "[I") lk_X10_isAutomorphism_19) (fun _ h9 => h9) rfl dX10_isAutomorphism_45 ?_
        refine lv_iload_n hx hb dX10_isAutomorphism_48 rfl (lv_at hl 2 rfl) ?_
        have hin := hw.1
        have hw := hw.2
        refine va_iald hx hb hE.1 hP 2 0 rfl rfl hin dX10_isAutomorphism_49 ?_
        refine lv_aload_n hx hb dX10_isAutomorphism_50 rfl (lv_at hl 0 rfl) ?_
        refine va_get (D := G.1) (ci := 10) (v := .ref h_order) (C := RX10) (T := TX10) (N := 11) hx hb hts in_X10_isAutomorphism_X10 hown hE.1 hP 0 rfl rfl 4 (by decide) (hts (.fieldLink RX10 19 "QuandleColoringsModel" "order" "[I") lk_X10_isAutomorphism_19) (fun _ h9 => h9) rfl dX10_isAutomorphism_51 ?_
        refine lv_iload_n hx hb dX10_isAutomorphism_54 rfl (lv_at hl 3 rfl) ?_
        have hin := hw.1
        have hw := hw.2
        refine va_iald hx hb hE.1 hP 2 0 rfl rfl hin dX10_isAutomorphism_55 ?_
        have hC9 : ([0, 1]).map (fun i => (wd_X10_isAutomorphism G h_this h_now h_history h_over h_order h_colors h_row h_three h_seen h_group f_edits f_total a_now a_order)[i]?) = (wd_X10_of G h_this h_now h_history h_over h_order h_colors h_row h_three h_seen h_group f_edits f_total a_now).map some := rfl
        refine qn_callI (wd := (fun u : Unit => wd_X10_isAutomorphism G h_this h_now h_history h_over h_order h_colors h_row h_three h_seen h_group f_edits f_total a_now a_order)) [0, 1] (va_runV (As := [.int (a_order x2.toNatClampNeg), .int (a_order x3.toNatClampNeg)]) (rest := [.int (a_order r_4.toNatClampNeg)]) ⟨hx, hb, hml, hown, hts⟩ (c_X10_of G _ h_this h_now h_history h_over h_order h_colors h_row h_three h_seen h_group f_edits f_total a_now (a_order x2.toNatClampNeg) (a_order x3.toNatClampNeg) hw) (cwV 2 hts gX10_isAutomorphism_X10_of rfl rfl rfl (by decide +kernel) ⟨Nat.le_of_ble_eq_true rfl, Nat.le_of_ble_eq_true rfl⟩) (qn_preV hE hP hD [0, 1] hC9 (by decide +kernel) (ci := 10) rfl rfl) rfl rfl hl.1 rfl (lv_room (Nat.le_of_ble_eq_true rfl)) dX10_isAutomorphism_56 ⟨Nat.le_of_ble_eq_true rfl, Nat.le_of_ble_eq_true rfl⟩) hP hD hS hA hC9 [some 0, some 1, none] (M := 3) rfl (by decide +kernel) (fun _ => rfl) (fun _ => rfl) (fun r_5 _ H locs hw hP hD hS => ?_)
        try dsimp only at hw
        have hP : va_P G.1 vwCl (wd_X10_isAutomorphism G h_this h_now h_history h_over h_order h_colors h_row h_three h_seen h_group f_edits f_total a_now a_order) H := hP
        have hD : va_D A (wd_X10_isAutomorphism G h_this h_now h_history h_over h_order h_colors h_row h_three h_seen h_group f_edits f_total a_now a_order) := hD
        refine lv_icmp_ne (tgt := 66) hx hb dX10_isAutomorphism_59 (by decide) (fun c_6 => ?_) (fun c_6 => ?_)
        · have hw := hw.1 c_6
          refine lv_iconst (v := 0) hx hb dX10_isAutomorphism_66 (by decide) ?_
          refine lv_istore_n (lv' := [(1, .int 0), (0, .ref h_this), (2, .int x2), (3, .int x3)]) hx hb dX10_isAutomorphism_67 rfl hl (by decide) rfl (fun ls hl => ?_)
          obtain ⟨x3_7, ex3_7⟩ : ∃ y : Int32, y = x3 + 1 := ⟨_, rfl⟩
          have hw := hw x3_7 ex3_7
          refine lv_iinc (v := x3_7) (lv' := [(3, .int x3_7), (1, .int 0), (0, .ref h_this), (2, .int x2)]) hx hb dX10_isAutomorphism_68 hl (k := 3) rfl (by rw [ex3_7]; rfl) (by decide) rfl (fun ls hl => ?_)
          refine lv_goto (tgt := 17) hx hb dX10_isAutomorphism_71 (by decide) ?_
          exact ih 0 x3_7 hw _ _ _ hP hD hS (lv_sub hl [2, 1, 3, 0] rfl)
        · have hw := hw.2 c_6
          refine lv_iconst (v := 1) hx hb dX10_isAutomorphism_62 (by decide) ?_
          refine lv_goto (tgt := 67) hx hb dX10_isAutomorphism_63 (by decide) ?_
          refine lv_istore_n (lv' := [(1, .int 1), (0, .ref h_this), (2, .int x2), (3, .int x3)]) hx hb dX10_isAutomorphism_67 rfl hl (by decide) rfl (fun ls hl => ?_)
          obtain ⟨x3_8, ex3_8⟩ : ∃ y : Int32, y = x3 + 1 := ⟨_, rfl⟩
          have hw := hw x3_8 ex3_8
          refine lv_iinc (v := x3_8) (lv' := [(3, .int x3_8), (1, .int 1), (0, .ref h_this), (2, .int x2)]) hx hb dX10_isAutomorphism_68 hl (k := 3) rfl (by rw [ex3_8]; rfl) (by decide) rfl (fun ls hl => ?_)
          refine lv_goto (tgt := 17) hx hb dX10_isAutomorphism_71 (by decide) ?_
          exact ih 1 x3_8 hw _ _ _ hP hD hS (lv_sub hl [2, 1, 3, 0] rfl)
set_option maxHeartbeats 4000000 in
set_option maxRecDepth 100000 in
theorem l_X10_isAutomorphism_4 {p : Program} {l : Launch} {e : Env} {s : State} {m : MethodId} {args : Array Value} {below : List Frame} {meth : Method} {c : Code} {G : qn_G} {A : Nat → Prop} {h_this h_now h_history h_over h_order h_colors h_row h_three h_seen h_group : Nat} {f_edits : Int32} {f_total : Int32} {a_now : Nat → Int32} {a_order : Nat → Int32} {post : Int32 → Prop} {KL4 : Int32 → Prop} (C0 : qn_C p m c cX10_isAutomorphism 4 s args wsX10_isAutomorphism RX10 meth (some .boolean)) (hE : qn_EV G s) (hA : ∀ q, s.heap.size ≤ q → A q) (hKc : ∀ (x1 : Int32), KL4 x1 → ∀ (H : Heap) (locs : List Loc) (ls : Array Slot), va_P G.1 vwCl (wd_X10_isAutomorphism G h_this h_now h_history h_over h_order h_colors h_row h_three h_seen h_group f_edits f_total a_now a_order) H → va_D A (wd_X10_isAutomorphism G h_this h_now h_history h_over h_order h_colors h_row h_three h_seen h_group f_edits f_total a_now a_order) → va_S A s.heap H locs → lv_has ls 4 [(1, .int x1)] → W p l e (headSpec wsX10_isAutomorphism rm_X10_isAutomorphism).room s m args below meth c H locs 0 0 (MQ below (qn_QI G (fun (r : Int32) (u : Unit) => post r) (fun u : Unit => wd_X10_isAutomorphism G h_this h_now h_history h_over h_order h_colors h_row h_three h_seen h_group f_edits f_total a_now a_order) A) args s 0 0 A) (F0 m 80 ls [])) :
    ∀ (fu : Nat) (x1 : Int32) (x2 : Int32), wp_X10_isAutomorphism_L4 KL4 a_now a_order fu x1 x2 → ∀ (H : Heap) (locs : List Loc) (ls : Array Slot), va_P G.1 vwCl (wd_X10_isAutomorphism G h_this h_now h_history h_over h_order h_colors h_row h_three h_seen h_group f_edits f_total a_now a_order) H → va_D A (wd_X10_isAutomorphism G h_this h_now h_history h_over h_order h_colors h_row h_three h_seen h_group f_edits f_total a_now a_order) → va_S A s.heap H locs → lv_has ls 4 [(0, .ref h_this), (1, .int x1), (2, .int x2)] → W p l e (headSpec wsX10_isAutomorphism rm_X10_isAutomorphism).room s m args below meth c H locs 0 0 (MQ below (qn_QI G (fun (r : Int32) (u : Unit) => post r) (fun u : Unit => wd_X10_isAutomorphism G h_this h_now h_history h_over h_order h_colors h_row h_three h_seen h_group f_edits f_total a_now a_order) A) args s 0 0 A) (F0 m 4 ls []) := by
  obtain ⟨hx, hb, hml, hown, hts, hr, hlocks⟩ := id C0
  intro fu
  induction fu with
  | zero => intro x1 x2 hw; exact hw.elim
  | succ fu ih =>
    intro x1 x2 hw H locs ls hP hD hS hl
    refine lv_iload_n hx hb dX10_isAutomorphism_4 rfl (lv_at hl 2 rfl) ?_
    refine lv_aload_n hx hb dX10_isAutomorphism_5 rfl (lv_at hl 0 rfl) ?_
    refine va_get (D := G.1) (ci := 10) (v := .ref h_now) (C := RX10) (T := TX10) (N := 11) hx hb hts in_X10_isAutomorphism_X10 hown hE.1 hP 0 rfl rfl 0 (by decide) (hts (.fieldLink RX10 7 "QuandleColoringsModel" "now" "[I") lk_X10_isAutomorphism_7) (fun _ h9 => h9) rfl dX10_isAutomorphism_6 ?_
    refine lv_bipush (v := 84) hx hb dX10_isAutomorphism_9 (by decide) ?_
    have hin := hw.1
    have hw := hw.2
    refine va_iald hx hb hE.1 hP 1 0 rfl rfl hin dX10_isAutomorphism_11 ?_
    refine lv_icmp_ge (tgt := 80) hx hb dX10_isAutomorphism_12 (by decide) (fun c_1 => ?_) (fun c_1 => ?_)
    · have hw := hw.1 c_1
      exact hKc x1 hw _ _ _ hP hD hS (lv_sub hl [1] rfl)
    · have hw := hw.2 c_1
      refine lv_iconst (v := 0) hx hb dX10_isAutomorphism_15 (by decide) ?_
      refine lv_istore_n (lv' := [(3, .int 0), (0, .ref h_this), (1, .int x1), (2, .int x2)]) hx hb dX10_isAutomorphism_16 rfl hl (by decide) rfl (fun ls hl => ?_)
      obtain ⟨fu_11, hw⟩ := hw
      refine l_X10_isAutomorphism_17 (post := post) C0 hE hA (fun x1_9 hw H locs ls hP hD hS hl => ?_) fu_11 x1 0 hw _ _ _ hP hD hS (lv_sub hl [1, 2, 3, 0] rfl)
      obtain ⟨x2_10, ex2_10⟩ : ∃ y : Int32, y = x2 + 1 := ⟨_, rfl⟩
      have hw := hw x2_10 ex2_10
      refine lv_iinc (v := x2_10) (lv' := [(2, .int x2_10), (0, .ref h_this), (1, .int x1_9)]) hx hb dX10_isAutomorphism_74 hl (k := 2) rfl (by rw [ex2_10]; rfl) (by decide) rfl (fun ls hl => ?_)
      refine lv_goto (tgt := 4) hx hb dX10_isAutomorphism_77 (by decide) ?_
      exact ih x1_9 x2_10 hw _ _ _ hP hD hS (lv_sub hl [1, 2, 0] rfl)
set_option maxHeartbeats 4000000 in
set_option maxRecDepth 100000 in
theorem c_X10_isAutomorphism {l : Launch} (G : qn_G) (sz : Nat) (h_this h_now h_history h_over h_order h_colors h_row h_three h_seen h_group : Nat) (f_edits : Int32) (f_total : Int32) (a_now : Nat → Int32) (a_order : Nat → Int32) {post : Int32 → Prop} (hw : wp_X10_isAutomorphism post a_now a_order) : Met l yX10_isAutomorphism wsX10_isAutomorphism rm_X10_isAutomorphism (qn_PC G [.ref h_this] sz (wd_X10_isAutomorphism G h_this h_now h_history h_over h_order h_colors h_row h_three h_seen h_group f_edits f_total a_now a_order)) (qn_QI G (fun (r : Int32) (u : Unit) => post r) (fun u : Unit => wd_X10_isAutomorphism G h_this h_now h_history h_over h_order h_colors h_row h_three h_seen h_group f_edits f_total a_now a_order) (va_A (wd_X10_isAutomorphism G h_this h_now h_history h_over h_order h_colors h_row h_three h_seen h_group f_edits f_total a_now a_order) sz)) 0 0 (va_A (wd_X10_isAutomorphism G h_this h_now h_history h_over h_order h_colors h_row h_three h_seen h_group f_edits f_total a_now a_order) sz) := by
  refine Met.ofW (cc := cX10_isAutomorphism) (maxL := 4) (ret := (some .boolean)) (by decide) rfl ?_
  intro p e s m args below meth c s₁ B hml hv
  obtain ⟨rfl, hsz, hP, hE, hD0⟩ := hv
  have C0 : qn_C p m c cX10_isAutomorphism 4 s _ wsX10_isAutomorphism RX10 meth (some .boolean) := qn_C0 B hml
  obtain ⟨hx, hb, -, hown, hts, hr, hlocks⟩ := id C0
  subst hsz
  have hD := hD0.self (sz := s.heap.size)
  generalize hAe : va_A (wd_X10_isAutomorphism G h_this h_now h_history h_over h_order h_colors h_row h_three h_seen h_group f_edits f_total a_now a_order) s.heap.size = A at hD ⊢
  have hA : ∀ q : Nat, s.heap.size ≤ q → A q := fun q h => by rw [← hAe]; exact Or.inr h
  clear hAe
  have hS : va_S A s.heap s.heap [] := va_S.rf
  have hl := lv_entry ([.ref h_this]) (n := 4) (Nat.le_of_ble_eq_true rfl)
  rw [lg_entry_eq]
  generalize (lg_sl ([.ref h_this]) ++ List.replicate (4 - (lg_sl ([.ref h_this])).length) Slot.unset).toArray = ls at hl ⊢
  have hl : lv_has ls 4 [(0, .ref h_this)] := hl
  have hP : va_P G.1 vwCl (wd_X10_isAutomorphism G h_this h_now h_history h_over h_order h_colors h_row h_three h_seen h_group f_edits f_total a_now a_order) s.heap := hP
  refine lv_iconst (v := 1) hx hb dX10_isAutomorphism_0 (by decide) ?_
  refine lv_istore_n (lv' := [(1, .int 1), (0, .ref h_this)]) hx hb dX10_isAutomorphism_1 rfl hl (by decide) rfl (fun ls hl => ?_)
  refine lv_iconst (v := 0) hx hb dX10_isAutomorphism_2 (by decide) ?_
  refine lv_istore_n (lv' := [(2, .int 0), (1, .int 1), (0, .ref h_this)]) hx hb dX10_isAutomorphism_3 rfl hl (by decide) rfl (fun ls hl => ?_)
  obtain ⟨fu_13, hw⟩ := hw
  refine l_X10_isAutomorphism_4 (post := post) C0 hE hA (fun x1_12 hw H locs ls hP hD hS hl => ?_) fu_13 1 0 hw _ _ _ hP hD hS (lv_sub hl [2, 1, 0] rfl)
  refine lv_iload_n hx hb dX10_isAutomorphism_80 rfl (lv_at hl 0 rfl) ?_
  exact W.zret (v := x1_12) hx hb hr (qn_nb hw.1) (fun t ht hW => ⟨⟨x1_12, (), rfl, hw.2, by rw [ht]; exact hP, hD⟩, hS.F ht⟩) hS.2.2 dX10_isAutomorphism_81
-- QuandleColoringsModel.automorphismCount()I
abbrev rm_X10_automorphismCount : Room := { frames := 2, cells := 0, slots := 0, locals := 45 }
abbrev wd_X10_automorphismCount (G : qn_G) (h_this h_now h_history h_over h_order h_colors h_row h_three h_seen h_group : Nat) (f_edits : Int32) (f_total : Int32) (a_now : Nat → Int32) (a_order : Nat → Int32) : va_W := [(h_this, .inr (10, [.ref h_now, .ref h_history, .int f_edits, .ref h_over, .ref h_order, .ref h_colors, .int f_total, .ref h_row, .ref h_three, .ref h_seen, .ref h_group])), (h_now, .inl (G.2.1, 88, .inl a_now)), (h_order, .inl (G.2.1, 6, .inl a_order))]
theorem in_X10_automorphismCount_X10 : ∀ w ∈ u_ws RX10 TX10 11, w ∈ wsX10_automorphismCount := by decide +kernel
theorem lk_X10_automorphismCount_7 : Cond.fieldLink RX10 7 "QuandleColoringsModel" "now" "[I" ∈ wsX10_automorphismCount := by decide +kernel
def wp_X10_automorphismCount_L15 (KL15 : Int32 → (Nat → Int32) → Prop) (x2 : Int32) (a_now : Nat → Int32) : Nat → Int32 → Int32 → (Nat → Int32) → Prop
  | 0 => fun _ _ _ => False
  | fu + 1 => fun x1 x3 a_order => ((x2 ≤ x3 → (KL15 x1 a_order)) ∧ (¬ x2 ≤ x3 → (vp_in 84 88 ∧ (wp_X10_unrank (fun (a_order_3 : Nat → Int32) => (wp_X10_isAutomorphism (fun (r_4 : Int32) => ((r_4 = 0 → (∀ x1_6 : Int32, x1_6 = x1 + 0 → (∀ x3_7 : Int32, x3_7 = x3 + 1 → ((wp_X10_automorphismCount_L15 KL15 x2 a_now fu) x1_6 x3_7 a_order_3)))) ∧ (¬ r_4 = 0 → (∀ x1_8 : Int32, x1_8 = x1 + 1 → (∀ x3_9 : Int32, x3_9 = x3 + 1 → ((wp_X10_automorphismCount_L15 KL15 x2 a_now fu) x1_8 x3_9 a_order_3)))))) a_now a_order_3)) a_order (a_now (84 : Int32).toNatClampNeg) x3))))
def wp_X10_automorphismCount (post : Int32 → (Nat → Int32) → Prop) (a_now : Nat → Int32) (a_order : Nat → Int32) : Prop := (vp_in 84 88 ∧ (wp_X10_factorial (fun (r_1 : Int32) => (∃ fu_12 : Nat, wp_X10_automorphismCount_L15 (fun (x1_10 : Int32) (a_order_11 : Nat → Int32) => (post x1_10 a_order_11)) r_1 a_now fu_12 0 0 a_order)) (a_now (84 : Int32).toNatClampNeg)))
set_option maxHeartbeats 4000000 in
set_option maxRecDepth 100000 in
theorem l_X10_automorphismCount_15 {p : Program} {l : Launch} {e : Env} {s : State} {m : MethodId} {args : Array Value} {below : List Frame} {meth : Method} {c : Code} {G : qn_G} {A : Nat → Prop} {h_this h_now h_history h_over h_order h_colors h_row h_three h_seen h_group : Nat} {f_edits : Int32} {f_total : Int32} {a_now : Nat → Int32} {x2 : Int32} {post : Int32 → (Nat → Int32) → Prop} {KL15 : Int32 → (Nat → Int32) → Prop} (C0 : qn_C p m c cX10_automorphismCount 4 s args wsX10_automorphismCount RX10 meth (some .int)) (hE : qn_EV G s) (hA : ∀ q, s.heap.size ≤ q → A q) (hKc : ∀ (x1 : Int32) (a_order : Nat → Int32), KL15 x1 a_order → ∀ (H : Heap) (locs : List Loc) (ls : Array Slot), va_P G.1 vwCl (wd_X10_automorphismCount G h_this h_now h_history h_over h_order h_colors h_row h_three h_seen h_group f_edits f_total a_now a_order) H → va_D A (wd_X10_automorphismCount G h_this h_now h_history h_over h_order h_colors h_row h_three h_seen h_group f_edits f_total a_now a_order) → va_S A s.heap H locs → lv_has ls 4 [(1, .int x1)] → W p l e (headSpec wsX10_automorphismCount rm_X10_automorphismCount).room s m args below meth c H locs 0 0 (MQ below (qn_QI G (fun (r : Int32) (u : (Nat → Int32)) => post r u) (fun u : (Nat → Int32) => wd_X10_automorphismCount G h_this h_now h_history h_over h_order h_colors h_row h_three h_seen h_group f_edits f_total a_now u) A) args s 0 0 A) (F0 m 53 ls [])) :
    ∀ (fu : Nat) (x1 : Int32) (x3 : Int32) (a_order : Nat → Int32), wp_X10_automorphismCount_L15 KL15 x2 a_now fu x1 x3 a_order → ∀ (H : Heap) (locs : List Loc) (ls : Array Slot), va_P G.1 vwCl (wd_X10_automorphismCount G h_this h_now h_history h_over h_order h_colors h_row h_three h_seen h_group f_edits f_total a_now a_order) H → va_D A (wd_X10_automorphismCount G h_this h_now h_history h_over h_order h_colors h_row h_three h_seen h_group f_edits f_total a_now a_order) → va_S A s.heap H locs → lv_has ls 4 [(0, .ref h_this), (1, .int x1), (2, .int x2), (3, .int x3)] → W p l e (headSpec wsX10_automorphismCount rm_X10_automorphismCount).room s m args below meth c H locs 0 0 (MQ below (qn_QI G (fun (r : Int32) (u : (Nat → Int32)) => post r u) (fun u : (Nat → Int32) => wd_X10_automorphismCount G h_this h_now h_history h_over h_order h_colors h_row h_three h_seen h_group f_edits f_total a_now u) A) args s 0 0 A) (F0 m 15 ls []) := by
  obtain ⟨hx, hb, hml, hown, hts, hr, hlocks⟩ := id C0
  intro fu
  induction fu with
  | zero => intro x1 x3 a_order hw; exact hw.elim
  | succ fu ih =>
    intro x1 x3 a_order hw H locs ls hP hD hS hl
    refine lv_iload_n hx hb dX10_automorphismCount_15 rfl (lv_at hl 3 rfl) ?_
    refine lv_iload_n hx hb dX10_automorphismCount_16 rfl (lv_at hl 2 rfl) ?_
    refine lv_icmp_ge (tgt := 53) hx hb dX10_automorphismCount_17 (by decide) (fun c_2 => ?_) (fun c_2 => ?_)
    · have hw := hw.1 c_2
      exact hKc x1 a_order hw _ _ _ hP hD hS (lv_sub hl [1] rfl)
    · have hw := hw.2 c_2
      refine lv_aload_n hx hb dX10_automorphismCount_20 rfl (lv_at hl 0 rfl) ?_
      refine lv_aload_n hx hb dX10_automorphismCount_21 rfl (lv_at hl 0 rfl) ?_
      refine va_get (D := G.1) (ci := 10) (v := .ref h_now) (C := RX10) (T := TX10) (N := 11) hx hb hts in_X10_automorphismCount_X10 hown hE.1 hP 0 rfl rfl 0 (by decide) (hts (.fieldLink RX10 7 "QuandleColoringsModel" "now" "[I") lk_X10_automorphismCount_7) (fun _ h9 => h9) rfl dX10_automorphismCount_22 ?_
      refine lv_bipush (v := 84) hx hb dX10_automorphismCount_25 (by decide) ?_
      have hin := hw.1
      have hw := hw.2
      refine va_iald hx hb hE.1 hP 1 0 rfl rfl hin dX10_automorphismCount_27 ?_
      refine lv_iload_n hx hb dX10_automorphismCount_28 rfl (lv_at hl 3 rfl) ?_
      have hC9 : ([0, 2]).map (fun i => (wd_X10_automorphismCount G h_this h_now h_history h_over h_order h_colors h_row h_three h_seen h_group f_edits f_total a_now a_order)[i]?) = (wd_X10_unrank G h_this h_now h_history h_over h_order h_colors h_row h_three h_seen h_group f_edits f_total a_order).map some := rfl
      refine qn_callV (wd := (fun u : (Nat → Int32) => wd_X10_automorphismCount G h_this h_now h_history h_over h_order h_colors h_row h_three h_seen h_group f_edits f_total a_now u)) [0, 2] (va_runV (As := [.int (a_now (84 : Int32).toNatClampNeg), .int x3]) (rest := []) ⟨hx, hb, hml, hown, hts⟩ (c_X10_unrank G _ h_this h_now h_history h_over h_order h_colors h_row h_three h_seen h_group f_edits f_total a_order (a_now (84 : Int32).toNatClampNeg) x3 hw) (cwV 2 hts gX10_automorphismCount_X10_unrank rfl rfl rfl (by decide +kernel) ⟨Nat.le_of_ble_eq_true rfl, Nat.le_of_ble_eq_true rfl⟩) (qn_preV hE hP hD [0, 2] hC9 (by decide +kernel) (ci := 10) rfl rfl) rfl rfl hl.1 rfl (lv_room (Nat.le_of_ble_eq_true rfl)) dX10_automorphismCount_29 ⟨Nat.le_of_ble_eq_true rfl, Nat.le_of_ble_eq_true rfl⟩) hP hD hS hA hC9 [some 0, none, some 1] (M := 3) rfl (by decide +kernel) (fun _ => rfl) (fun _ => rfl) (fun a_order_3 H locs hw hP hD hS => ?_)
      try dsimp only at hw
      have hP : va_P G.1 vwCl (wd_X10_automorphismCount G h_this h_now h_history h_over h_order h_colors h_row h_three h_seen h_group f_edits f_total a_now a_order_3) H := hP
      have hD : va_D A (wd_X10_automorphismCount G h_this h_now h_history h_over h_order h_colors h_row h_three h_seen h_group f_edits f_total a_now a_order_3) := hD
      refine lv_iload_n hx hb dX10_automorphismCount_32 rfl (lv_at hl 1 rfl) ?_
      refine lv_aload_n hx hb dX10_automorphismCount_33 rfl (lv_at hl 0 rfl) ?_
      have hC9 : ([0, 1, 2]).map (fun i => (wd_X10_automorphismCount G h_this h_now h_history h_over h_order h_colors h_row h_three h_seen h_group f_edits f_total a_now a_order_3)[i]?) = (wd_X10_isAutomorphism G h_this h_now h_history h_over h_order h_colors h_row h_three h_seen h_group f_edits f_total a_now a_order_3).map some := rfl
      refine qn_callI (wd := (fun u : Unit => wd_X10_automorphismCount G h_this h_now h_history h_over h_order h_colors h_row h_three h_seen h_group f_edits f_total a_now a_order_3)) [0, 1, 2] (va_runV (As := []) (rest := [.int x1]) ⟨hx, hb, hml, hown, hts⟩ (c_X10_isAutomorphism G _ h_this h_now h_history h_over h_order h_colors h_row h_three h_seen h_group f_edits f_total a_now a_order_3 hw) (cwV 0 hts gX10_automorphismCount_X10_isAutomorphism rfl rfl rfl (by decide +kernel) ⟨Nat.le_of_ble_eq_true rfl, Nat.le_of_ble_eq_true rfl⟩) (qn_preV hE hP hD [0, 1, 2] hC9 (by decide +kernel) (ci := 10) rfl rfl) rfl rfl hl.1 rfl (lv_room (Nat.le_of_ble_eq_true rfl)) dX10_automorphismCount_34 ⟨Nat.le_of_ble_eq_true rfl, Nat.le_of_ble_eq_true rfl⟩) hP hD hS hA hC9 [some 0, some 1, some 2] (M := 3) rfl (by decide +kernel) (fun _ => rfl) (fun _ => rfl) (fun r_4 _ H locs hw hP hD hS => ?_)
      try dsimp only at hw
      have hP : va_P G.1 vwCl (wd_X10_automorphismCount G h_this h_now h_history h_over h_order h_colors h_row h_three h_seen h_group f_edits f_total a_now a_order_3) H := hP
      have hD : va_D A (wd_X10_automorphismCount G h_this h_now h_history h_over h_order h_colors h_row h_three h_seen h_group f_edits f_total a_now a_order_3) := hD
      refine lv_if_eq (tgt := 44) hx hb dX10_automorphismCount_37 (by decide) (fun c_5 => ?_) (fun c_5 => ?_)
      · have hw := hw.1 c_5
        refine lv_iconst (v := 0) hx hb dX10_automorphismCount_44 (by decide) ?_
        refine lv_iadd hx hb dX10_automorphismCount_45 ?_
        refine lv_topi (fun x1_6 ex1_6 => ?_)
        have hw := hw x1_6 ex1_6
        refine lv_istore_n (lv' := [(1, .int x1_6), (0, .ref h_this), (2, .int x2), (3, .int x3)]) hx hb dX10_automorphismCount_46 rfl hl (by decide) rfl (fun ls hl => ?_)
        obtain ⟨x3_7, ex3_7⟩ : ∃ y : Int32, y = x3 + 1 := ⟨_, rfl⟩
        have hw := hw x3_7 ex3_7
        refine lv_iinc (v := x3_7) (lv' := [(3, .int x3_7), (1, .int x1_6), (0, .ref h_this), (2, .int x2)]) hx hb dX10_automorphismCount_47 hl (k := 3) rfl (by rw [ex3_7]; rfl) (by decide) rfl (fun ls hl => ?_)
        refine lv_goto (tgt := 15) hx hb dX10_automorphismCount_50 (by decide) ?_
        exact ih x1_6 x3_7 a_order_3 hw _ _ _ hP hD hS (lv_sub hl [2, 1, 3, 0] rfl)
      · have hw := hw.2 c_5
        refine lv_iconst (v := 1) hx hb dX10_automorphismCount_40 (by decide) ?_
        refine lv_goto (tgt := 45) hx hb dX10_automorphismCount_41 (by decide) ?_
        refine lv_iadd hx hb dX10_automorphismCount_45 ?_
        refine lv_topi (fun x1_8 ex1_8 => ?_)
        have hw := hw x1_8 ex1_8
        refine lv_istore_n (lv' := [(1, .int x1_8), (0, .ref h_this), (2, .int x2), (3, .int x3)]) hx hb dX10_automorphismCount_46 rfl hl (by decide) rfl (fun ls hl => ?_)
        obtain ⟨x3_9, ex3_9⟩ : ∃ y : Int32, y = x3 + 1 := ⟨_, rfl⟩
        have hw := hw x3_9 ex3_9
        refine lv_iinc (v := x3_9) (lv' := [(3, .int x3_9), (1, .int x1_8), (0, .ref h_this), (2, .int x2)]) hx hb dX10_automorphismCount_47 hl (k := 3) rfl (by rw [ex3_9]; rfl) (by decide) rfl (fun ls hl => ?_)
        refine lv_goto (tgt := 15) hx hb dX10_automorphismCount_50 (by decide) ?_
        exact ih x1_8 x3_9 a_order_3 hw _ _ _ hP hD hS (lv_sub hl [2, 1, 3, 0] rfl)
set_option maxHeartbeats 4000000 in
set_option maxRecDepth 100000 in
theorem c_X10_automorphismCount {l : Launch} (G : qn_G) (sz : Nat) (h_this h_now h_history h_over h_order h_colors h_row h_three h_seen h_group : Nat) (f_edits : Int32) (f_total : Int32) (a_now : Nat → Int32) (a_order : Nat → Int32) {post : Int32 → (Nat → Int32) → Prop} (hw : wp_X10_automorphismCount post a_now a_order) : Met l yX10_automorphismCount wsX10_automorphismCount rm_X10_automorphismCount (qn_PC G [.ref h_this] sz (wd_X10_automorphismCount G h_this h_now h_history h_over h_order h_colors h_row h_three h_seen h_group f_edits f_total a_now a_order)) (qn_QI G (fun (r : Int32) (u : (Nat → Int32)) => post r u) (fun u : (Nat → Int32) => wd_X10_automorphismCount G h_this h_now h_history h_over h_order h_colors h_row h_three h_seen h_group f_edits f_total a_now u) (va_A (wd_X10_automorphismCount G h_this h_now h_history h_over h_order h_colors h_row h_three h_seen h_group f_edits f_total a_now a_order) sz)) 0 0 (va_A (wd_X10_automorphismCount G h_this h_now h_history h_over h_order h_colors h_row h_three h_seen h_group f_edits f_total a_now a_order) sz) := by
  refine Met.ofW (cc := cX10_automorphismCount) (maxL := 4) (ret := (some .int)) (by decide) rfl ?_
  intro p e s m args below meth c s₁ B hml hv
  obtain ⟨rfl, hsz, hP, hE, hD0⟩ := hv
  have C0 : qn_C p m c cX10_automorphismCount 4 s _ wsX10_automorphismCount RX10 meth (some .int) := qn_C0 B hml
  obtain ⟨hx, hb, -, hown, hts, hr, hlocks⟩ := id C0
  subst hsz
  have hD := hD0.self (sz := s.heap.size)
  generalize hAe : va_A (wd_X10_automorphismCount G h_this h_now h_history h_over h_order h_colors h_row h_three h_seen h_group f_edits f_total a_now a_order) s.heap.size = A at hD ⊢
  have hA : ∀ q : Nat, s.heap.size ≤ q → A q := fun q h => by rw [← hAe]; exact Or.inr h
  clear hAe
  have hS : va_S A s.heap s.heap [] := va_S.rf
  have hl := lv_entry ([.ref h_this]) (n := 4) (Nat.le_of_ble_eq_true rfl)
  rw [lg_entry_eq]
  generalize (lg_sl ([.ref h_this]) ++ List.replicate (4 - (lg_sl ([.ref h_this])).length) Slot.unset).toArray = ls at hl ⊢
  have hl : lv_has ls 4 [(0, .ref h_this)] := hl
  have hP : va_P G.1 vwCl (wd_X10_automorphismCount G h_this h_now h_history h_over h_order h_colors h_row h_three h_seen h_group f_edits f_total a_now a_order) s.heap := hP
  refine lv_iconst (v := 0) hx hb dX10_automorphismCount_0 (by decide) ?_
  refine lv_istore_n (lv' := [(1, .int 0), (0, .ref h_this)]) hx hb dX10_automorphismCount_1 rfl hl (by decide) rfl (fun ls hl => ?_)
  refine lv_aload_n hx hb dX10_automorphismCount_2 rfl (lv_at hl 1 rfl) ?_
  refine va_get (D := G.1) (ci := 10) (v := .ref h_now) (C := RX10) (T := TX10) (N := 11) hx hb hts in_X10_automorphismCount_X10 hown hE.1 hP 0 rfl rfl 0 (by decide) (hts (.fieldLink RX10 7 "QuandleColoringsModel" "now" "[I") lk_X10_automorphismCount_7) (fun _ h9 => h9) rfl dX10_automorphismCount_3 ?_
  refine lv_bipush (v := 84) hx hb dX10_automorphismCount_6 (by decide) ?_
  have hin := hw.1
  have hw := hw.2
  refine va_iald hx hb hE.1 hP 1 0 rfl rfl hin dX10_automorphismCount_8 ?_
  have hC9 : ([] : List Nat).map (fun i => (wd_X10_automorphismCount G h_this h_now h_history h_over h_order h_colors h_row h_three h_seen h_group f_edits f_total a_now a_order)[i]?) = (wd_X10_factorial G).map some := rfl
  refine qn_callI (wd := (fun u : Unit => wd_X10_automorphismCount G h_this h_now h_history h_over h_order h_colors h_row h_three h_seen h_group f_edits f_total a_now a_order)) [] (va_runS (As := [.int (a_now (84 : Int32).toNatClampNeg)]) (rest := []) ⟨hx, hb, hml, hown, hts⟩ (c_X10_factorial G _ (a_now (84 : Int32).toNatClampNeg) hw) (va_cwS 1 hts gX10_automorphismCount_X10_factorial rfl rfl rfl (by decide +kernel) ⟨Nat.le_of_ble_eq_true rfl, Nat.le_of_ble_eq_true rfl⟩) (qn_preS hE hP hD [] hC9 (by decide +kernel)) rfl rfl hl.1 rfl (lv_room (Nat.le_of_ble_eq_true rfl)) dX10_automorphismCount_9 ⟨Nat.le_of_ble_eq_true rfl, Nat.le_of_ble_eq_true rfl⟩) hP hD hS hA hC9 [none, none, none] (M := 3) rfl (by decide +kernel) (fun _ => rfl) (fun _ => rfl) (fun r_1 _ H locs hw hP hD hS => ?_)
  try dsimp only at hw
  have hP : va_P G.1 vwCl (wd_X10_automorphismCount G h_this h_now h_history h_over h_order h_colors h_row h_three h_seen h_group f_edits f_total a_now a_order) H := hP
  have hD : va_D A (wd_X10_automorphismCount G h_this h_now h_history h_over h_order h_colors h_row h_three h_seen h_group f_edits f_total a_now a_order) := hD
  refine lv_istore_n (lv' := [(2, .int r_1), (1, .int 0), (0, .ref h_this)]) hx hb dX10_automorphismCount_12 rfl hl (by decide) rfl (fun ls hl => ?_)
  refine lv_iconst (v := 0) hx hb dX10_automorphismCount_13 (by decide) ?_
  refine lv_istore_n (lv' := [(3, .int 0), (2, .int r_1), (1, .int 0), (0, .ref h_this)]) hx hb dX10_automorphismCount_14 rfl hl (by decide) rfl (fun ls hl => ?_)
  obtain ⟨fu_12, hw⟩ := hw
  refine l_X10_automorphismCount_15 (post := post) C0 hE hA (fun x1_10 a_order_11 hw H locs ls hP hD hS hl => ?_) fu_12 0 0 a_order hw _ _ _ hP hD hS (lv_sub hl [3, 2, 1, 0] rfl)
  refine lv_iload_n hx hb dX10_automorphismCount_53 rfl (lv_at hl 0 rfl) ?_
  exact W.iret (v := x1_10) hx hb hr (fun t ht hW => ⟨⟨x1_10, a_order_11, rfl, hw, by rw [ht]; exact hP, hD⟩, hS.F ht⟩) hS.2.2 dX10_automorphismCount_54
-- QuandleColoringsModel.setStrands(I)I
abbrev rm_X10_setStrands : Room := { frames := 1, cells := 0, slots := 0, locals := 22 }
abbrev wd_X10_setStrands (G : qn_G) (h_this h_now h_history h_over h_order h_colors h_row h_three h_seen h_group : Nat) (f_edits : Int32) (f_total : Int32) (a_now : Nat → Int32) (a_history : Nat → Int32) : va_W := [(h_this, .inr (10, [.ref h_now, .ref h_history, .int f_edits, .ref h_over, .ref h_order, .ref h_colors, .int f_total, .ref h_row, .ref h_three, .ref h_seen, .ref h_group])), (h_now, .inl (G.2.1, 88, .inl a_now)), (h_history, .inl (G.2.1, 440, .inl a_history))]
theorem in_X10_setStrands_X10 : ∀ w ∈ u_ws RX10 TX10 11, w ∈ wsX10_setStrands := by decide +kernel
theorem lk_X10_setStrands_7 : Cond.fieldLink RX10 7 "QuandleColoringsModel" "now" "[I" ∈ wsX10_setStrands := by decide +kernel
def wp_X10_setStrands (post : Int32 → Int32 → (Nat → Int32) → (Nat → Int32) → Prop) (f_edits : Int32) (a_now : Nat → Int32) (a_history : Nat → Int32) (x1 : Int32) : Prop := (wp_X10_in (fun (r_1 : Int32) => ((¬ r_1 = 0 → (wp_X10_edit (fun (f_edits_3 : Int32) (a_history_4 : Nat → Int32) => (vp_in 85 88 ∧ (∀ x2_6 : Int32, x2_6 = a_now (85 : Int32).toNatClampNeg → (vp_in 85 88 ∧ (∀ a_now_7 : Nat → Int32, a_now_7 = upd a_now (85 : Int32).toNatClampNeg x1 → (vp_in 86 88 ∧ (∀ a_now_8 : Nat → Int32, a_now_8 = upd a_now_7 (86 : Int32).toNatClampNeg 0 → (post x2_6 f_edits_3 a_now_8 a_history_4)))))))) f_edits a_now a_history)) ∧ (r_1 = 0 → (post (-1) f_edits a_now a_history)))) x1 2 4)
set_option maxHeartbeats 4000000 in
set_option maxRecDepth 100000 in
theorem c_X10_setStrands {l : Launch} (G : qn_G) (sz : Nat) (h_this h_now h_history h_over h_order h_colors h_row h_three h_seen h_group : Nat) (f_edits : Int32) (f_total : Int32) (a_now : Nat → Int32) (a_history : Nat → Int32) (x1 : Int32) {post : Int32 → Int32 → (Nat → Int32) → (Nat → Int32) → Prop} (hw : wp_X10_setStrands post f_edits a_now a_history x1) : Met l yX10_setStrands wsX10_setStrands rm_X10_setStrands (qn_PC G [.ref h_this, .int x1] sz (wd_X10_setStrands G h_this h_now h_history h_over h_order h_colors h_row h_three h_seen h_group f_edits f_total a_now a_history)) (qn_QI G (fun (r : Int32) (u : Int32 × (Nat → Int32) × (Nat → Int32)) => post r u.1 u.2.1 u.2.2) (fun u : Int32 × (Nat → Int32) × (Nat → Int32) => wd_X10_setStrands G h_this h_now h_history h_over h_order h_colors h_row h_three h_seen h_group (u.1) f_total (u.2.1) (u.2.2)) (va_A (wd_X10_setStrands G h_this h_now h_history h_over h_order h_colors h_row h_three h_seen h_group f_edits f_total a_now a_history) sz)) 0 0 (va_A (wd_X10_setStrands G h_this h_now h_history h_over h_order h_colors h_row h_three h_seen h_group f_edits f_total a_now a_history) sz) := by
  refine Met.ofW (cc := cX10_setStrands) (maxL := 3) (ret := (some .int)) (by decide) rfl ?_
  intro p e s m args below meth c s₁ B hml hv
  obtain ⟨rfl, hsz, hP, hE, hD0⟩ := hv
  have C0 : qn_C p m c cX10_setStrands 3 s _ wsX10_setStrands RX10 meth (some .int) := qn_C0 B hml
  obtain ⟨hx, hb, -, hown, hts, hr, hlocks⟩ := id C0
  subst hsz
  have hD := hD0.self (sz := s.heap.size)
  generalize hAe : va_A (wd_X10_setStrands G h_this h_now h_history h_over h_order h_colors h_row h_three h_seen h_group f_edits f_total a_now a_history) s.heap.size = A at hD ⊢
  have hA : ∀ q : Nat, s.heap.size ≤ q → A q := fun q h => by rw [← hAe]; exact Or.inr h
  clear hAe
  have hS : va_S A s.heap s.heap [] := va_S.rf
  have hl := lv_entry ([.ref h_this, .int x1]) (n := 3) (Nat.le_of_ble_eq_true rfl)
  rw [lg_entry_eq]
  generalize (lg_sl ([.ref h_this, .int x1]) ++ List.replicate (3 - (lg_sl ([.ref h_this, .int x1])).length) Slot.unset).toArray = ls at hl ⊢
  have hl : lv_has ls 3 [(0, .ref h_this), (1, .int x1)] := hl
  have hP : va_P G.1 vwCl (wd_X10_setStrands G h_this h_now h_history h_over h_order h_colors h_row h_three h_seen h_group f_edits f_total a_now a_history) s.heap := hP
  refine lv_iload_n hx hb dX10_setStrands_0 rfl (lv_at hl 1 rfl) ?_
  refine lv_iconst (v := 2) hx hb dX10_setStrands_1 (by decide) ?_
  refine lv_iconst (v := 4) hx hb dX10_setStrands_2 (by decide) ?_
  have hC9 : ([] : List Nat).map (fun i => (wd_X10_setStrands G h_this h_now h_history h_over h_order h_colors h_row h_three h_seen h_group f_edits f_total a_now a_history)[i]?) = (wd_X10_in G).map some := rfl
  refine qn_callI (wd := (fun u : Unit => wd_X10_setStrands G h_this h_now h_history h_over h_order h_colors h_row h_three h_seen h_group f_edits f_total a_now a_history)) [] (va_runS (As := [.int x1, .int 2, .int 4]) (rest := []) ⟨hx, hb, hml, hown, hts⟩ (c_X10_in G _ x1 2 4 hw) (va_cwS 3 hts gX10_setStrands_X10_in rfl rfl rfl (by decide +kernel) ⟨Nat.le_of_ble_eq_true rfl, Nat.le_of_ble_eq_true rfl⟩) (qn_preS hE hP hD [] hC9 (by decide +kernel)) rfl rfl hl.1 rfl (lv_room (Nat.le_of_ble_eq_true rfl)) dX10_setStrands_3 ⟨Nat.le_of_ble_eq_true rfl, Nat.le_of_ble_eq_true rfl⟩) hP hD hS hA hC9 [none, none, none] (M := 3) rfl (by decide +kernel) (fun _ => rfl) (fun _ => rfl) (fun r_1 _ H locs hw hP hD hS => ?_)
  try dsimp only at hw
  have hP : va_P G.1 vwCl (wd_X10_setStrands G h_this h_now h_history h_over h_order h_colors h_row h_three h_seen h_group f_edits f_total a_now a_history) H := hP
  have hD : va_D A (wd_X10_setStrands G h_this h_now h_history h_over h_order h_colors h_row h_three h_seen h_group f_edits f_total a_now a_history) := hD
  refine lv_if_ne (tgt := 11) hx hb dX10_setStrands_6 (by decide) (fun c_2 => ?_) (fun c_2 => ?_)
  · have hw := hw.1 c_2
    refine lv_aload_n hx hb dX10_setStrands_11 rfl (lv_at hl 0 rfl) ?_
    have hC9 : ([0, 1, 2]).map (fun i => (wd_X10_setStrands G h_this h_now h_history h_over h_order h_colors h_row h_three h_seen h_group f_edits f_total a_now a_history)[i]?) = (wd_X10_edit G h_this h_now h_history h_over h_order h_colors h_row h_three h_seen h_group f_edits f_total a_now a_history).map some := rfl
    refine qn_callV (wd := (fun u : Int32 × (Nat → Int32) => wd_X10_setStrands G h_this h_now h_history h_over h_order h_colors h_row h_three h_seen h_group (u.1) f_total a_now (u.2))) [0, 1, 2] (va_runV (As := []) (rest := []) ⟨hx, hb, hml, hown, hts⟩ (c_X10_edit G _ h_this h_now h_history h_over h_order h_colors h_row h_three h_seen h_group f_edits f_total a_now a_history hw) (cwV 0 hts gX10_setStrands_X10_edit rfl rfl rfl (by decide +kernel) ⟨Nat.le_of_ble_eq_true rfl, Nat.le_of_ble_eq_true rfl⟩) (qn_preV hE hP hD [0, 1, 2] hC9 (by decide +kernel) (ci := 10) rfl rfl) rfl rfl hl.1 rfl (lv_room (Nat.le_of_ble_eq_true rfl)) dX10_setStrands_12 ⟨Nat.le_of_ble_eq_true rfl, Nat.le_of_ble_eq_true rfl⟩) hP hD hS hA hC9 [some 0, some 1, some 2] (M := 3) rfl (by decide +kernel) (fun _ => rfl) (fun _ => rfl) (fun u_5 H locs hw hP hD hS => ?_)
    obtain ⟨f_edits_3, a_history_4⟩ := u_5
    try dsimp only at hw
    have hP : va_P G.1 vwCl (wd_X10_setStrands G h_this h_now h_history h_over h_order h_colors h_row h_three h_seen h_group f_edits_3 f_total a_now a_history_4) H := hP
    have hD : va_D A (wd_X10_setStrands G h_this h_now h_history h_over h_order h_colors h_row h_three h_seen h_group f_edits_3 f_total a_now a_history_4) := hD
    refine lv_aload_n hx hb dX10_setStrands_15 rfl (lv_at hl 0 rfl) ?_
    refine va_get (D := G.1) (ci := 10) (v := .ref h_now) (C := RX10) (T := TX10) (N := 11) hx hb hts in_X10_setStrands_X10 hown hE.1 hP 0 rfl rfl 0 (by decide) (hts (.fieldLink RX10 7 "QuandleColoringsModel" "now" "[I") lk_X10_setStrands_7) (fun _ h9 => h9) rfl dX10_setStrands_16 ?_
    refine lv_bipush (v := 85) hx hb dX10_setStrands_19 (by decide) ?_
    have hin := hw.1
    have hw := hw.2
    refine va_iald hx hb hE.1 hP 1 0 rfl rfl hin dX10_setStrands_21 ?_
    refine lv_topi (fun x2_6 ex2_6 => ?_)
    have hw := hw x2_6 ex2_6
    refine lv_istore_n (lv' := [(2, .int x2_6), (0, .ref h_this), (1, .int x1)]) hx hb dX10_setStrands_22 rfl hl (by decide) rfl (fun ls hl => ?_)
    refine lv_aload_n hx hb dX10_setStrands_23 rfl (lv_at hl 1 rfl) ?_
    refine va_get (D := G.1) (ci := 10) (v := .ref h_now) (C := RX10) (T := TX10) (N := 11) hx hb hts in_X10_setStrands_X10 hown hE.1 hP 0 rfl rfl 0 (by decide) (hts (.fieldLink RX10 7 "QuandleColoringsModel" "now" "[I") lk_X10_setStrands_7) (fun _ h9 => h9) rfl dX10_setStrands_24 ?_
    refine lv_bipush (v := 85) hx hb dX10_setStrands_27 (by decide) ?_
    refine lv_iload_n hx hb dX10_setStrands_29 rfl (lv_at hl 2 rfl) ?_
    have hin := hw.1
    have hw := hw.2
    obtain ⟨a_now_7, ea_now_7⟩ : ∃ y : Nat → Int32, y = upd a_now (85 : Int32).toNatClampNeg x1 := ⟨_, rfl⟩
    have hw := hw a_now_7 ea_now_7
    refine va_iast hx hb hE.1 hP hD hS 1 0 rfl rfl hin dX10_setStrands_30 (fun H locs hP hD hS => ?_)
    rw [← ea_now_7] at hP hD
    have hP : va_P G.1 vwCl (wd_X10_setStrands G h_this h_now h_history h_over h_order h_colors h_row h_three h_seen h_group f_edits_3 f_total a_now_7 a_history_4) H := hP
    have hD : va_D A (wd_X10_setStrands G h_this h_now h_history h_over h_order h_colors h_row h_three h_seen h_group f_edits_3 f_total a_now_7 a_history_4) := hD
    refine lv_aload_n hx hb dX10_setStrands_31 rfl (lv_at hl 1 rfl) ?_
    refine va_get (D := G.1) (ci := 10) (v := .ref h_now) (C := RX10) (T := TX10) (N := 11) hx hb hts in_X10_setStrands_X10 hown hE.1 hP 0 rfl rfl 0 (by decide) (hts (.fieldLink RX10 7 "QuandleColoringsModel" "now" "[I") lk_X10_setStrands_7) (fun _ h9 => h9) rfl dX10_setStrands_32 ?_
    refine lv_bipush (v := 86) hx hb dX10_setStrands_35 (by decide) ?_
    refine lv_iconst (v := 0) hx hb dX10_setStrands_37 (by decide) ?_
    have hin := hw.1
    have hw := hw.2
    obtain ⟨a_now_8, ea_now_8⟩ : ∃ y : Nat → Int32, y = upd a_now_7 (86 : Int32).toNatClampNeg 0 := ⟨_, rfl⟩
    have hw := hw a_now_8 ea_now_8
    refine va_iast hx hb hE.1 hP hD hS 1 0 rfl rfl hin dX10_setStrands_38 (fun H locs hP hD hS => ?_)
    rw [← ea_now_8] at hP hD
    have hP : va_P G.1 vwCl (wd_X10_setStrands G h_this h_now h_history h_over h_order h_colors h_row h_three h_seen h_group f_edits_3 f_total a_now_8 a_history_4) H := hP
    have hD : va_D A (wd_X10_setStrands G h_this h_now h_history h_over h_order h_colors h_row h_three h_seen h_group f_edits_3 f_total a_now_8 a_history_4) := hD
    refine lv_iload_n hx hb dX10_setStrands_39 rfl (lv_at hl 0 rfl) ?_
    exact W.iret (v := x2_6) hx hb hr (fun t ht hW => ⟨⟨x2_6, (f_edits_3, a_now_8, a_history_4), rfl, hw, by rw [ht]; exact hP, hD⟩, hS.F ht⟩) hS.2.2 dX10_setStrands_40
  · have hw := hw.2 c_2
    refine lv_iconst (v := (-1)) hx hb dX10_setStrands_9 (by decide) ?_
    exact W.iret (v := (-1)) hx hb hr (fun t ht hW => ⟨⟨(-1), (f_edits, a_now, a_history), rfl, hw, by rw [ht]; exact hP, hD⟩, hS.F ht⟩) hS.2.2 dX10_setStrands_10
-- QuandleColoringsModel.appendCrossing(I)I
abbrev rm_X10_appendCrossing : Room := { frames := 1, cells := 0, slots := 0, locals := 22 }
abbrev wd_X10_appendCrossing (G : qn_G) (h_this h_now h_history h_over h_order h_colors h_row h_three h_seen h_group : Nat) (f_edits : Int32) (f_total : Int32) (a_now : Nat → Int32) (a_history : Nat → Int32) : va_W := [(h_this, .inr (10, [.ref h_now, .ref h_history, .int f_edits, .ref h_over, .ref h_order, .ref h_colors, .int f_total, .ref h_row, .ref h_three, .ref h_seen, .ref h_group])), (h_now, .inl (G.2.1, 88, .inl a_now)), (h_history, .inl (G.2.1, 440, .inl a_history))]
theorem in_X10_appendCrossing_X10 : ∀ w ∈ u_ws RX10 TX10 11, w ∈ wsX10_appendCrossing := by decide +kernel
theorem lk_X10_appendCrossing_7 : Cond.fieldLink RX10 7 "QuandleColoringsModel" "now" "[I" ∈ wsX10_appendCrossing := by decide +kernel
def wp_X10_appendCrossing (post : Int32 → Int32 → (Nat → Int32) → (Nat → Int32) → Prop) (f_edits : Int32) (a_now : Nat → Int32) (a_history : Nat → Int32) (x1 : Int32) : Prop := (vp_in 85 88 ∧ (∀ x2_1 : Int32, x2_1 = (a_now (85 : Int32).toNatClampNeg) - 1 → (wp_X10_in (fun (r_2 : Int32) => ((r_2 = 0 → (post (-1) f_edits a_now a_history)) ∧ (¬ r_2 = 0 → ((¬ x1 = 0 → (vp_in 86 88 ∧ ((¬ (a_now (86 : Int32).toNatClampNeg) = 12 → (wp_X10_edit (fun (f_edits_6 : Int32) (a_history_7 : Nat → Int32) => (vp_in 86 88 ∧ (vp_in (72 + (a_now (86 : Int32).toNatClampNeg)) 88 ∧ (∀ a_now_9 : Nat → Int32, a_now_9 = upd a_now (72 + (a_now (86 : Int32).toNatClampNeg)).toNatClampNeg x1 → (vp_in 86 88 ∧ (vp_in 86 88 ∧ (∀ a_now_10 : Nat → Int32, a_now_10 = upd a_now_9 (86 : Int32).toNatClampNeg ((a_now_9 (86 : Int32).toNatClampNeg) + 1) → (vp_in 86 88 ∧ (post (a_now_10 (86 : Int32).toNatClampNeg) f_edits_6 a_now_10 a_history_7))))))))) f_edits a_now a_history)) ∧ ((a_now (86 : Int32).toNatClampNeg) = 12 → (post (-3) f_edits a_now a_history))))) ∧ (x1 = 0 → (post (-1) f_edits a_now a_history)))))) x1 (-x2_1) x2_1)))
set_option maxHeartbeats 4000000 in
set_option maxRecDepth 100000 in
theorem c_X10_appendCrossing {l : Launch} (G : qn_G) (sz : Nat) (h_this h_now h_history h_over h_order h_colors h_row h_three h_seen h_group : Nat) (f_edits : Int32) (f_total : Int32) (a_now : Nat → Int32) (a_history : Nat → Int32) (x1 : Int32) {post : Int32 → Int32 → (Nat → Int32) → (Nat → Int32) → Prop} (hw : wp_X10_appendCrossing post f_edits a_now a_history x1) : Met l yX10_appendCrossing wsX10_appendCrossing rm_X10_appendCrossing (qn_PC G [.ref h_this, .int x1] sz (wd_X10_appendCrossing G h_this h_now h_history h_over h_order h_colors h_row h_three h_seen h_group f_edits f_total a_now a_history)) (qn_QI G (fun (r : Int32) (u : Int32 × (Nat → Int32) × (Nat → Int32)) => post r u.1 u.2.1 u.2.2) (fun u : Int32 × (Nat → Int32) × (Nat → Int32) => wd_X10_appendCrossing G h_this h_now h_history h_over h_order h_colors h_row h_three h_seen h_group (u.1) f_total (u.2.1) (u.2.2)) (va_A (wd_X10_appendCrossing G h_this h_now h_history h_over h_order h_colors h_row h_three h_seen h_group f_edits f_total a_now a_history) sz)) 0 0 (va_A (wd_X10_appendCrossing G h_this h_now h_history h_over h_order h_colors h_row h_three h_seen h_group f_edits f_total a_now a_history) sz) := by
  refine Met.ofW (cc := cX10_appendCrossing) (maxL := 3) (ret := (some .int)) (by decide) rfl ?_
  intro p e s m args below meth c s₁ B hml hv
  obtain ⟨rfl, hsz, hP, hE, hD0⟩ := hv
  have C0 : qn_C p m c cX10_appendCrossing 3 s _ wsX10_appendCrossing RX10 meth (some .int) := qn_C0 B hml
  obtain ⟨hx, hb, -, hown, hts, hr, hlocks⟩ := id C0
  subst hsz
  have hD := hD0.self (sz := s.heap.size)
  generalize hAe : va_A (wd_X10_appendCrossing G h_this h_now h_history h_over h_order h_colors h_row h_three h_seen h_group f_edits f_total a_now a_history) s.heap.size = A at hD ⊢
  have hA : ∀ q : Nat, s.heap.size ≤ q → A q := fun q h => by rw [← hAe]; exact Or.inr h
  clear hAe
  have hS : va_S A s.heap s.heap [] := va_S.rf
  have hl := lv_entry ([.ref h_this, .int x1]) (n := 3) (Nat.le_of_ble_eq_true rfl)
  rw [lg_entry_eq]
  generalize (lg_sl ([.ref h_this, .int x1]) ++ List.replicate (3 - (lg_sl ([.ref h_this, .int x1])).length) Slot.unset).toArray = ls at hl ⊢
  have hl : lv_has ls 3 [(0, .ref h_this), (1, .int x1)] := hl
  have hP : va_P G.1 vwCl (wd_X10_appendCrossing G h_this h_now h_history h_over h_order h_colors h_row h_three h_seen h_group f_edits f_total a_now a_history) s.heap := hP
  refine lv_aload_n hx hb dX10_appendCrossing_0 rfl (lv_at hl 0 rfl) ?_
  refine va_get (D := G.1) (ci := 10) (v := .ref h_now) (C := RX10) (T := TX10) (N := 11) hx hb hts in_X10_appendCrossing_X10 hown hE.1 hP 0 rfl rfl 0 (by decide) (hts (.fieldLink RX10 7 "QuandleColoringsModel" "now" "[I") lk_X10_appendCrossing_7) (fun _ h9 => h9) rfl dX10_appendCrossing_1 ?_
  refine lv_bipush (v := 85) hx hb dX10_appendCrossing_4 (by decide) ?_
  have hin := hw.1
  have hw := hw.2
  refine va_iald hx hb hE.1 hP 1 0 rfl rfl hin dX10_appendCrossing_6 ?_
  refine lv_iconst (v := 1) hx hb dX10_appendCrossing_7 (by decide) ?_
  refine lv_isub hx hb dX10_appendCrossing_8 ?_
  refine lv_topi (fun x2_1 ex2_1 => ?_)
  have hw := hw x2_1 ex2_1
  refine lv_istore_n (lv' := [(2, .int x2_1), (0, .ref h_this), (1, .int x1)]) hx hb dX10_appendCrossing_9 rfl hl (by decide) rfl (fun ls hl => ?_)
  refine lv_iload_n hx hb dX10_appendCrossing_10 rfl (lv_at hl 2 rfl) ?_
  refine lv_iload_n hx hb dX10_appendCrossing_11 rfl (lv_at hl 0 rfl) ?_
  refine lv_ineg hx hb dX10_appendCrossing_12 ?_
  refine lv_iload_n hx hb dX10_appendCrossing_13 rfl (lv_at hl 0 rfl) ?_
  have hC9 : ([] : List Nat).map (fun i => (wd_X10_appendCrossing G h_this h_now h_history h_over h_order h_colors h_row h_three h_seen h_group f_edits f_total a_now a_history)[i]?) = (wd_X10_in G).map some := rfl
  refine qn_callI (wd := (fun u : Unit => wd_X10_appendCrossing G h_this h_now h_history h_over h_order h_colors h_row h_three h_seen h_group f_edits f_total a_now a_history)) [] (va_runS (As := [.int x1, .int (-x2_1), .int x2_1]) (rest := []) ⟨hx, hb, hml, hown, hts⟩ (c_X10_in G _ x1 (-x2_1) x2_1 hw) (va_cwS 3 hts gX10_appendCrossing_X10_in rfl rfl rfl (by decide +kernel) ⟨Nat.le_of_ble_eq_true rfl, Nat.le_of_ble_eq_true rfl⟩) (qn_preS hE hP hD [] hC9 (by decide +kernel)) rfl rfl hl.1 rfl (lv_room (Nat.le_of_ble_eq_true rfl)) dX10_appendCrossing_14 ⟨Nat.le_of_ble_eq_true rfl, Nat.le_of_ble_eq_true rfl⟩) hP hD hS hA hC9 [none, none, none] (M := 3) rfl (by decide +kernel) (fun _ => rfl) (fun _ => rfl) (fun r_2 _ H locs hw hP hD hS => ?_)
  try dsimp only at hw
  have hP : va_P G.1 vwCl (wd_X10_appendCrossing G h_this h_now h_history h_over h_order h_colors h_row h_three h_seen h_group f_edits f_total a_now a_history) H := hP
  have hD : va_D A (wd_X10_appendCrossing G h_this h_now h_history h_over h_order h_colors h_row h_three h_seen h_group f_edits f_total a_now a_history) := hD
  refine lv_if_eq (tgt := 24) hx hb dX10_appendCrossing_17 (by decide) (fun c_3 => ?_) (fun c_3 => ?_)
  · have hw := hw.1 c_3
    refine lv_iconst (v := (-1)) hx hb dX10_appendCrossing_24 (by decide) ?_
    exact W.iret (v := (-1)) hx hb hr (fun t ht hW => ⟨⟨(-1), (f_edits, a_now, a_history), rfl, hw, by rw [ht]; exact hP, hD⟩, hS.F ht⟩) hS.2.2 dX10_appendCrossing_25
  · have hw := hw.2 c_3
    refine lv_iload_n hx hb dX10_appendCrossing_20 rfl (lv_at hl 2 rfl) ?_
    refine lv_if_ne (tgt := 26) hx hb dX10_appendCrossing_21 (by decide) (fun c_4 => ?_) (fun c_4 => ?_)
    · have hw := hw.1 c_4
      refine lv_aload_n hx hb dX10_appendCrossing_26 rfl (lv_at hl 1 rfl) ?_
      refine va_get (D := G.1) (ci := 10) (v := .ref h_now) (C := RX10) (T := TX10) (N := 11) hx hb hts in_X10_appendCrossing_X10 hown hE.1 hP 0 rfl rfl 0 (by decide) (hts (.fieldLink RX10 7 "QuandleColoringsModel" "now" "[I") lk_X10_appendCrossing_7) (fun _ h9 => h9) rfl dX10_appendCrossing_27 ?_
      refine lv_bipush (v := 86) hx hb dX10_appendCrossing_30 (by decide) ?_
      have hin := hw.1
      have hw := hw.2
      refine va_iald hx hb hE.1 hP 1 0 rfl rfl hin dX10_appendCrossing_32 ?_
      refine lv_bipush (v := 12) hx hb dX10_appendCrossing_33 (by decide) ?_
      refine lv_icmp_ne (tgt := 41) hx hb dX10_appendCrossing_35 (by decide) (fun c_5 => ?_) (fun c_5 => ?_)
      · have hw := hw.1 c_5
        refine lv_aload_n hx hb dX10_appendCrossing_41 rfl (lv_at hl 1 rfl) ?_
        have hC9 : ([0, 1, 2]).map (fun i => (wd_X10_appendCrossing G h_this h_now h_history h_over h_order h_colors h_row h_three h_seen h_group f_edits f_total a_now a_history)[i]?) = (wd_X10_edit G h_this h_now h_history h_over h_order h_colors h_row h_three h_seen h_group f_edits f_total a_now a_history).map some := rfl
        refine qn_callV (wd := (fun u : Int32 × (Nat → Int32) => wd_X10_appendCrossing G h_this h_now h_history h_over h_order h_colors h_row h_three h_seen h_group (u.1) f_total a_now (u.2))) [0, 1, 2] (va_runV (As := []) (rest := []) ⟨hx, hb, hml, hown, hts⟩ (c_X10_edit G _ h_this h_now h_history h_over h_order h_colors h_row h_three h_seen h_group f_edits f_total a_now a_history hw) (cwV 0 hts gX10_appendCrossing_X10_edit rfl rfl rfl (by decide +kernel) ⟨Nat.le_of_ble_eq_true rfl, Nat.le_of_ble_eq_true rfl⟩) (qn_preV hE hP hD [0, 1, 2] hC9 (by decide +kernel) (ci := 10) rfl rfl) rfl rfl hl.1 rfl (lv_room (Nat.le_of_ble_eq_true rfl)) dX10_appendCrossing_42 ⟨Nat.le_of_ble_eq_true rfl, Nat.le_of_ble_eq_true rfl⟩) hP hD hS hA hC9 [some 0, some 1, some 2] (M := 3) rfl (by decide +kernel) (fun _ => rfl) (fun _ => rfl) (fun u_8 H locs hw hP hD hS => ?_)
        obtain ⟨f_edits_6, a_history_7⟩ := u_8
        try dsimp only at hw
        have hP : va_P G.1 vwCl (wd_X10_appendCrossing G h_this h_now h_history h_over h_order h_colors h_row h_three h_seen h_group f_edits_6 f_total a_now a_history_7) H := hP
        have hD : va_D A (wd_X10_appendCrossing G h_this h_now h_history h_over h_order h_colors h_row h_three h_seen h_group f_edits_6 f_total a_now a_history_7) := hD
        refine lv_aload_n hx hb dX10_appendCrossing_45 rfl (lv_at hl 1 rfl) ?_
        refine va_get (D := G.1) (ci := 10) (v := .ref h_now) (C := RX10) (T := TX10) (N := 11) hx hb hts in_X10_appendCrossing_X10 hown hE.1 hP 0 rfl rfl 0 (by decide) (hts (.fieldLink RX10 7 "QuandleColoringsModel" "now" "[I") lk_X10_appendCrossing_7) (fun _ h9 => h9) rfl dX10_appendCrossing_46 ?_
        refine lv_bipush (v := 72) hx hb dX10_appendCrossing_49 (by decide) ?_
        refine lv_aload_n hx hb dX10_appendCrossing_51 rfl (lv_at hl 1 rfl) ?_
        refine va_get (D := G.1) (ci := 10) (v := .ref h_now) (C := RX10) (T := TX10) (N := 11) hx hb hts in_X10_appendCrossing_X10 hown hE.1 hP 0 rfl rfl 0 (by decide) (hts (.fieldLink RX10 7 "QuandleColoringsModel" "now" "[I") lk_X10_appendCrossing_7) (fun _ h9 => h9) rfl dX10_appendCrossing_52 ?_
        refine lv_bipush (v := 86) hx hb dX10_appendCrossing_55 (by decide) ?_
        have hin := hw.1
        have hw := hw.2
        refine va_iald hx hb hE.1 hP 1 0 rfl rfl hin dX10_appendCrossing_57 ?_
        refine lv_iadd hx hb dX10_appendCrossing_58 ?_
        refine lv_iload_n hx hb dX10_appendCrossing_59 rfl (lv_at hl 2 rfl) ?_
        have hin := hw.1
        have hw := hw.2
        obtain ⟨a_now_9, ea_now_9⟩ : ∃ y : Nat → Int32, y = upd a_now (72 + (a_now (86 : Int32).toNatClampNeg)).toNatClampNeg x1 := ⟨_, rfl⟩
        have hw := hw a_now_9 ea_now_9
        refine va_iast hx hb hE.1 hP hD hS 1 0 rfl rfl hin dX10_appendCrossing_60 (fun H locs hP hD hS => ?_)
        rw [← ea_now_9] at hP hD
        have hP : va_P G.1 vwCl (wd_X10_appendCrossing G h_this h_now h_history h_over h_order h_colors h_row h_three h_seen h_group f_edits_6 f_total a_now_9 a_history_7) H := hP
        have hD : va_D A (wd_X10_appendCrossing G h_this h_now h_history h_over h_order h_colors h_row h_three h_seen h_group f_edits_6 f_total a_now_9 a_history_7) := hD
        refine lv_aload_n hx hb dX10_appendCrossing_61 rfl (lv_at hl 1 rfl) ?_
        refine va_get (D := G.1) (ci := 10) (v := .ref h_now) (C := RX10) (T := TX10) (N := 11) hx hb hts in_X10_appendCrossing_X10 hown hE.1 hP 0 rfl rfl 0 (by decide) (hts (.fieldLink RX10 7 "QuandleColoringsModel" "now" "[I") lk_X10_appendCrossing_7) (fun _ h9 => h9) rfl dX10_appendCrossing_62 ?_
        refine lv_bipush (v := 86) hx hb dX10_appendCrossing_65 (by decide) ?_
        refine lv_dup2_11 hx hb dX10_appendCrossing_67 rfl rfl ?_
        have hin := hw.1
        have hw := hw.2
        refine va_iald hx hb hE.1 hP 1 0 rfl rfl hin dX10_appendCrossing_68 ?_
        refine lv_iconst (v := 1) hx hb dX10_appendCrossing_69 (by decide) ?_
        refine lv_iadd hx hb dX10_appendCrossing_70 ?_
        have hin := hw.1
        have hw := hw.2
        obtain ⟨a_now_10, ea_now_10⟩ : ∃ y : Nat → Int32, y = upd a_now_9 (86 : Int32).toNatClampNeg ((a_now_9 (86 : Int32).toNatClampNeg) + 1) := ⟨_, rfl⟩
        have hw := hw a_now_10 ea_now_10
        refine va_iast hx hb hE.1 hP hD hS 1 0 rfl rfl hin dX10_appendCrossing_71 (fun H locs hP hD hS => ?_)
        rw [← ea_now_10] at hP hD
        have hP : va_P G.1 vwCl (wd_X10_appendCrossing G h_this h_now h_history h_over h_order h_colors h_row h_three h_seen h_group f_edits_6 f_total a_now_10 a_history_7) H := hP
        have hD : va_D A (wd_X10_appendCrossing G h_this h_now h_history h_over h_order h_colors h_row h_three h_seen h_group f_edits_6 f_total a_now_10 a_history_7) := hD
        refine lv_aload_n hx hb dX10_appendCrossing_72 rfl (lv_at hl 1 rfl) ?_
        refine va_get (D := G.1) (ci := 10) (v := .ref h_now) (C := RX10) (T := TX10) (N := 11) hx hb hts in_X10_appendCrossing_X10 hown hE.1 hP 0 rfl rfl 0 (by decide) (hts (.fieldLink RX10 7 "QuandleColoringsModel" "now" "[I") lk_X10_appendCrossing_7) (fun _ h9 => h9) rfl dX10_appendCrossing_73 ?_
        refine lv_bipush (v := 86) hx hb dX10_appendCrossing_76 (by decide) ?_
        have hin := hw.1
        have hw := hw.2
        refine va_iald hx hb hE.1 hP 1 0 rfl rfl hin dX10_appendCrossing_78 ?_
        exact W.iret (v := (a_now_10 (86 : Int32).toNatClampNeg)) hx hb hr (fun t ht hW => ⟨⟨(a_now_10 (86 : Int32).toNatClampNeg), (f_edits_6, a_now_10, a_history_7), rfl, hw, by rw [ht]; exact hP, hD⟩, hS.F ht⟩) hS.2.2 dX10_appendCrossing_79
      · have hw := hw.2 c_5
        refine lv_bipush (v := (-3)) hx hb dX10_appendCrossing_38 (by decide) ?_
        exact W.iret (v := (-3)) hx hb hr (fun t ht hW => ⟨⟨(-3), (f_edits, a_now, a_history), rfl, hw, by rw [ht]; exact hP, hD⟩, hS.F ht⟩) hS.2.2 dX10_appendCrossing_40
    · have hw := hw.2 c_4
      refine lv_iconst (v := (-1)) hx hb dX10_appendCrossing_24 (by decide) ?_
      exact W.iret (v := (-1)) hx hb hr (fun t ht hW => ⟨⟨(-1), (f_edits, a_now, a_history), rfl, hw, by rw [ht]; exact hP, hD⟩, hS.F ht⟩) hS.2.2 dX10_appendCrossing_25
-- QuandleColoringsModel.removeCrossing()I
abbrev rm_X10_removeCrossing : Room := { frames := 1, cells := 0, slots := 0, locals := 21 }
abbrev wd_X10_removeCrossing (G : qn_G) (h_this h_now h_history h_over h_order h_colors h_row h_three h_seen h_group : Nat) (f_edits : Int32) (f_total : Int32) (a_now : Nat → Int32) (a_history : Nat → Int32) : va_W := [(h_this, .inr (10, [.ref h_now, .ref h_history, .int f_edits, .ref h_over, .ref h_order, .ref h_colors, .int f_total, .ref h_row, .ref h_three, .ref h_seen, .ref h_group])), (h_now, .inl (G.2.1, 88, .inl a_now)), (h_history, .inl (G.2.1, 440, .inl a_history))]
theorem in_X10_removeCrossing_X10 : ∀ w ∈ u_ws RX10 TX10 11, w ∈ wsX10_removeCrossing := by decide +kernel
theorem lk_X10_removeCrossing_7 : Cond.fieldLink RX10 7 "QuandleColoringsModel" "now" "[I" ∈ wsX10_removeCrossing := by decide +kernel
def wp_X10_removeCrossing (post : Int32 → Int32 → (Nat → Int32) → (Nat → Int32) → Prop) (f_edits : Int32) (a_now : Nat → Int32) (a_history : Nat → Int32) : Prop := (vp_in 86 88 ∧ ((¬ (a_now (86 : Int32).toNatClampNeg) = 0 → (wp_X10_edit (fun (f_edits_2 : Int32) (a_history_3 : Nat → Int32) => (vp_in 86 88 ∧ (vp_in 86 88 ∧ (∀ a_now_5 : Nat → Int32, a_now_5 = upd a_now (86 : Int32).toNatClampNeg ((a_now (86 : Int32).toNatClampNeg) - 1) → (vp_in 86 88 ∧ (vp_in (72 + (a_now_5 (86 : Int32).toNatClampNeg)) 88 ∧ (∀ x1_6 : Int32, x1_6 = a_now_5 (72 + (a_now_5 (86 : Int32).toNatClampNeg)).toNatClampNeg → ((0 ≤ x1_6 → (post x1_6 f_edits_2 a_now_5 a_history_3)) ∧ (¬ 0 ≤ x1_6 → (post (-x1_6) f_edits_2 a_now_5 a_history_3)))))))))) f_edits a_now a_history)) ∧ ((a_now (86 : Int32).toNatClampNeg) = 0 → (post (-4) f_edits a_now a_history))))
set_option maxHeartbeats 4000000 in
set_option maxRecDepth 100000 in
theorem c_X10_removeCrossing {l : Launch} (G : qn_G) (sz : Nat) (h_this h_now h_history h_over h_order h_colors h_row h_three h_seen h_group : Nat) (f_edits : Int32) (f_total : Int32) (a_now : Nat → Int32) (a_history : Nat → Int32) {post : Int32 → Int32 → (Nat → Int32) → (Nat → Int32) → Prop} (hw : wp_X10_removeCrossing post f_edits a_now a_history) : Met l yX10_removeCrossing wsX10_removeCrossing rm_X10_removeCrossing (qn_PC G [.ref h_this] sz (wd_X10_removeCrossing G h_this h_now h_history h_over h_order h_colors h_row h_three h_seen h_group f_edits f_total a_now a_history)) (qn_QI G (fun (r : Int32) (u : Int32 × (Nat → Int32) × (Nat → Int32)) => post r u.1 u.2.1 u.2.2) (fun u : Int32 × (Nat → Int32) × (Nat → Int32) => wd_X10_removeCrossing G h_this h_now h_history h_over h_order h_colors h_row h_three h_seen h_group (u.1) f_total (u.2.1) (u.2.2)) (va_A (wd_X10_removeCrossing G h_this h_now h_history h_over h_order h_colors h_row h_three h_seen h_group f_edits f_total a_now a_history) sz)) 0 0 (va_A (wd_X10_removeCrossing G h_this h_now h_history h_over h_order h_colors h_row h_three h_seen h_group f_edits f_total a_now a_history) sz) := by
  refine Met.ofW (cc := cX10_removeCrossing) (maxL := 2) (ret := (some .int)) (by decide) rfl ?_
  intro p e s m args below meth c s₁ B hml hv
  obtain ⟨rfl, hsz, hP, hE, hD0⟩ := hv
  have C0 : qn_C p m c cX10_removeCrossing 2 s _ wsX10_removeCrossing RX10 meth (some .int) := qn_C0 B hml
  obtain ⟨hx, hb, -, hown, hts, hr, hlocks⟩ := id C0
  subst hsz
  have hD := hD0.self (sz := s.heap.size)
  generalize hAe : va_A (wd_X10_removeCrossing G h_this h_now h_history h_over h_order h_colors h_row h_three h_seen h_group f_edits f_total a_now a_history) s.heap.size = A at hD ⊢
  have hA : ∀ q : Nat, s.heap.size ≤ q → A q := fun q h => by rw [← hAe]; exact Or.inr h
  clear hAe
  have hS : va_S A s.heap s.heap [] := va_S.rf
  have hl := lv_entry ([.ref h_this]) (n := 2) (Nat.le_of_ble_eq_true rfl)
  rw [lg_entry_eq]
  generalize (lg_sl ([.ref h_this]) ++ List.replicate (2 - (lg_sl ([.ref h_this])).length) Slot.unset).toArray = ls at hl ⊢
  have hl : lv_has ls 2 [(0, .ref h_this)] := hl
  have hP : va_P G.1 vwCl (wd_X10_removeCrossing G h_this h_now h_history h_over h_order h_colors h_row h_three h_seen h_group f_edits f_total a_now a_history) s.heap := hP
  refine lv_aload_n hx hb dX10_removeCrossing_0 rfl (lv_at hl 0 rfl) ?_
  refine va_get (D := G.1) (ci := 10) (v := .ref h_now) (C := RX10) (T := TX10) (N := 11) hx hb hts in_X10_removeCrossing_X10 hown hE.1 hP 0 rfl rfl 0 (by decide) (hts (.fieldLink RX10 7 "QuandleColoringsModel" "now" "[I") lk_X10_removeCrossing_7) (fun _ h9 => h9) rfl dX10_removeCrossing_1 ?_
  refine lv_bipush (v := 86) hx hb dX10_removeCrossing_4 (by decide) ?_
  have hin := hw.1
  have hw := hw.2
  refine va_iald hx hb hE.1 hP 1 0 rfl rfl hin dX10_removeCrossing_6 ?_
  refine lv_if_ne (tgt := 13) hx hb dX10_removeCrossing_7 (by decide) (fun c_1 => ?_) (fun c_1 => ?_)
  · have hw := hw.1 c_1
    refine lv_aload_n hx hb dX10_removeCrossing_13 rfl (lv_at hl 0 rfl) ?_
    have hC9 : ([0, 1, 2]).map (fun i => (wd_X10_removeCrossing G h_this h_now h_history h_over h_order h_colors h_row h_three h_seen h_group f_edits f_total a_now a_history)[i]?) = (wd_X10_edit G h_this h_now h_history h_over h_order h_colors h_row h_three h_seen h_group f_edits f_total a_now a_history).map some := rfl
    refine qn_callV (wd := (fun u : Int32 × (Nat → Int32) => wd_X10_removeCrossing G h_this h_now h_history h_over h_order h_colors h_row h_three h_seen h_group (u.1) f_total a_now (u.2))) [0, 1, 2] (va_runV (As := []) (rest := []) ⟨hx, hb, hml, hown, hts⟩ (c_X10_edit G _ h_this h_now h_history h_over h_order h_colors h_row h_three h_seen h_group f_edits f_total a_now a_history hw) (cwV 0 hts gX10_removeCrossing_X10_edit rfl rfl rfl (by decide +kernel) ⟨Nat.le_of_ble_eq_true rfl, Nat.le_of_ble_eq_true rfl⟩) (qn_preV hE hP hD [0, 1, 2] hC9 (by decide +kernel) (ci := 10) rfl rfl) rfl rfl hl.1 rfl (lv_room (Nat.le_of_ble_eq_true rfl)) dX10_removeCrossing_14 ⟨Nat.le_of_ble_eq_true rfl, Nat.le_of_ble_eq_true rfl⟩) hP hD hS hA hC9 [some 0, some 1, some 2] (M := 3) rfl (by decide +kernel) (fun _ => rfl) (fun _ => rfl) (fun u_4 H locs hw hP hD hS => ?_)
    obtain ⟨f_edits_2, a_history_3⟩ := u_4
    try dsimp only at hw
    have hP : va_P G.1 vwCl (wd_X10_removeCrossing G h_this h_now h_history h_over h_order h_colors h_row h_three h_seen h_group f_edits_2 f_total a_now a_history_3) H := hP
    have hD : va_D A (wd_X10_removeCrossing G h_this h_now h_history h_over h_order h_colors h_row h_three h_seen h_group f_edits_2 f_total a_now a_history_3) := hD
    refine lv_aload_n hx hb dX10_removeCrossing_17 rfl (lv_at hl 0 rfl) ?_
    refine va_get (D := G.1) (ci := 10) (v := .ref h_now) (C := RX10) (T := TX10) (N := 11) hx hb hts in_X10_removeCrossing_X10 hown hE.1 hP 0 rfl rfl 0 (by decide) (hts (.fieldLink RX10 7 "QuandleColoringsModel" "now" "[I") lk_X10_removeCrossing_7) (fun _ h9 => h9) rfl dX10_removeCrossing_18 ?_
    refine lv_bipush (v := 86) hx hb dX10_removeCrossing_21 (by decide) ?_
    refine lv_dup2_11 hx hb dX10_removeCrossing_23 rfl rfl ?_
    have hin := hw.1
    have hw := hw.2
    refine va_iald hx hb hE.1 hP 1 0 rfl rfl hin dX10_removeCrossing_24 ?_
    refine lv_iconst (v := 1) hx hb dX10_removeCrossing_25 (by decide) ?_
    refine lv_isub hx hb dX10_removeCrossing_26 ?_
    have hin := hw.1
    have hw := hw.2
    obtain ⟨a_now_5, ea_now_5⟩ : ∃ y : Nat → Int32, y = upd a_now (86 : Int32).toNatClampNeg ((a_now (86 : Int32).toNatClampNeg) - 1) := ⟨_, rfl⟩
    have hw := hw a_now_5 ea_now_5
    refine va_iast hx hb hE.1 hP hD hS 1 0 rfl rfl hin dX10_removeCrossing_27 (fun H locs hP hD hS => ?_)
    rw [← ea_now_5] at hP hD
    have hP : va_P G.1 vwCl (wd_X10_removeCrossing G h_this h_now h_history h_over h_order h_colors h_row h_three h_seen h_group f_edits_2 f_total a_now_5 a_history_3) H := hP
    have hD : va_D A (wd_X10_removeCrossing G h_this h_now h_history h_over h_order h_colors h_row h_three h_seen h_group f_edits_2 f_total a_now_5 a_history_3) := hD
    refine lv_aload_n hx hb dX10_removeCrossing_28 rfl (lv_at hl 0 rfl) ?_
    refine va_get (D := G.1) (ci := 10) (v := .ref h_now) (C := RX10) (T := TX10) (N := 11) hx hb hts in_X10_removeCrossing_X10 hown hE.1 hP 0 rfl rfl 0 (by decide) (hts (.fieldLink RX10 7 "QuandleColoringsModel" "now" "[I") lk_X10_removeCrossing_7) (fun _ h9 => h9) rfl dX10_removeCrossing_29 ?_
    refine lv_bipush (v := 72) hx hb dX10_removeCrossing_32 (by decide) ?_
    refine lv_aload_n hx hb dX10_removeCrossing_34 rfl (lv_at hl 0 rfl) ?_
    refine va_get (D := G.1) (ci := 10) (v := .ref h_now) (C := RX10) (T := TX10) (N := 11) hx hb hts in_X10_removeCrossing_X10 hown hE.1 hP 0 rfl rfl 0 (by decide) (hts (.fieldLink RX10 7 "QuandleColoringsModel" "now" "[I") lk_X10_removeCrossing_7) (fun _ h9 => h9) rfl dX10_removeCrossing_35 ?_
    refine lv_bipush (v := 86) hx hb dX10_removeCrossing_38 (by decide) ?_
    have hin := hw.1
    have hw := hw.2
    refine va_iald hx hb hE.1 hP 1 0 rfl rfl hin dX10_removeCrossing_40 ?_
    refine lv_iadd hx hb dX10_removeCrossing_41 ?_
    have hin := hw.1
    have hw := hw.2
    refine va_iald hx hb hE.1 hP 1 0 rfl rfl hin dX10_removeCrossing_42 ?_
    refine lv_topi (fun x1_6 ex1_6 => ?_)
    have hw := hw x1_6 ex1_6
    refine lv_istore_n (lv' := [(1, .int x1_6), (0, .ref h_this)]) hx hb dX10_removeCrossing_43 rfl hl (by decide) rfl (fun ls hl => ?_)
    refine lv_iload_n hx hb dX10_removeCrossing_44 rfl (lv_at hl 0 rfl) ?_
    refine lv_if_ge (tgt := 53) hx hb dX10_removeCrossing_45 (by decide) (fun c_7 => ?_) (fun c_7 => ?_)
    · have hw := hw.1 c_7
      refine lv_iload_n hx hb dX10_removeCrossing_53 rfl (lv_at hl 0 rfl) ?_
      exact W.iret (v := x1_6) hx hb hr (fun t ht hW => ⟨⟨x1_6, (f_edits_2, a_now_5, a_history_3), rfl, hw, by rw [ht]; exact hP, hD⟩, hS.F ht⟩) hS.2.2 dX10_removeCrossing_54
    · have hw := hw.2 c_7
      refine lv_iload_n hx hb dX10_removeCrossing_48 rfl (lv_at hl 0 rfl) ?_
      refine lv_ineg hx hb dX10_removeCrossing_49 ?_
      refine lv_goto (tgt := 54) hx hb dX10_removeCrossing_50 (by decide) ?_
      exact W.iret (v := (-x1_6)) hx hb hr (fun t ht hW => ⟨⟨(-x1_6), (f_edits_2, a_now_5, a_history_3), rfl, hw, by rw [ht]; exact hP, hD⟩, hS.F ht⟩) hS.2.2 dX10_removeCrossing_54
  · have hw := hw.2 c_1
    refine lv_bipush (v := (-4)) hx hb dX10_removeCrossing_10 (by decide) ?_
    exact W.iret (v := (-4)) hx hb hr (fun t ht hW => ⟨⟨(-4), (f_edits, a_now, a_history), rfl, hw, by rw [ht]; exact hP, hD⟩, hS.F ht⟩) hS.2.2 dX10_removeCrossing_12
-- QuandleColoringsModel.crossingCount()I
abbrev rm_X10_crossingCount : Room := { frames := 0, cells := 0, slots := 0, locals := 0 }
abbrev wd_X10_crossingCount (G : qn_G) (h_this h_now h_history h_over h_order h_colors h_row h_three h_seen h_group : Nat) (f_edits : Int32) (f_total : Int32) (a_now : Nat → Int32) : va_W := [(h_this, .inr (10, [.ref h_now, .ref h_history, .int f_edits, .ref h_over, .ref h_order, .ref h_colors, .int f_total, .ref h_row, .ref h_three, .ref h_seen, .ref h_group])), (h_now, .inl (G.2.1, 88, .inl a_now))]
theorem in_X10_crossingCount_X10 : ∀ w ∈ u_ws RX10 TX10 11, w ∈ wsX10_crossingCount := by decide +kernel
theorem lk_X10_crossingCount_7 : Cond.fieldLink RX10 7 "QuandleColoringsModel" "now" "[I" ∈ wsX10_crossingCount := by decide +kernel
def wp_X10_crossingCount (post : Int32 → Prop) (a_now : Nat → Int32) : Prop := (vp_in 86 88 ∧ (post (a_now (86 : Int32).toNatClampNeg)))
set_option maxHeartbeats 4000000 in
set_option maxRecDepth 100000 in
theorem c_X10_crossingCount {l : Launch} (G : qn_G) (sz : Nat) (h_this h_now h_history h_over h_order h_colors h_row h_three h_seen h_group : Nat) (f_edits : Int32) (f_total : Int32) (a_now : Nat → Int32) {post : Int32 → Prop} (hw : wp_X10_crossingCount post a_now) : Met l yX10_crossingCount wsX10_crossingCount rm_X10_crossingCount (qn_PC G [.ref h_this] sz (wd_X10_crossingCount G h_this h_now h_history h_over h_order h_colors h_row h_three h_seen h_group f_edits f_total a_now)) (qn_QI G (fun (r : Int32) (u : Unit) => post r) (fun u : Unit => wd_X10_crossingCount G h_this h_now h_history h_over h_order h_colors h_row h_three h_seen h_group f_edits f_total a_now) (va_A (wd_X10_crossingCount G h_this h_now h_history h_over h_order h_colors h_row h_three h_seen h_group f_edits f_total a_now) sz)) 0 0 (va_A (wd_X10_crossingCount G h_this h_now h_history h_over h_order h_colors h_row h_three h_seen h_group f_edits f_total a_now) sz) := by
  refine Met.ofW (cc := cX10_crossingCount) (maxL := 1) (ret := (some .int)) (by decide) rfl ?_
  intro p e s m args below meth c s₁ B hml hv
  obtain ⟨rfl, hsz, hP, hE, hD0⟩ := hv
  have C0 : qn_C p m c cX10_crossingCount 1 s _ wsX10_crossingCount RX10 meth (some .int) := qn_C0 B hml
  obtain ⟨hx, hb, -, hown, hts, hr, hlocks⟩ := id C0
  subst hsz
  have hD := hD0.self (sz := s.heap.size)
  generalize hAe : va_A (wd_X10_crossingCount G h_this h_now h_history h_over h_order h_colors h_row h_three h_seen h_group f_edits f_total a_now) s.heap.size = A at hD ⊢
  have hA : ∀ q : Nat, s.heap.size ≤ q → A q := fun q h => by rw [← hAe]; exact Or.inr h
  clear hAe
  have hS : va_S A s.heap s.heap [] := va_S.rf
  have hl := lv_entry ([.ref h_this]) (n := 1) (Nat.le_of_ble_eq_true rfl)
  rw [lg_entry_eq]
  generalize (lg_sl ([.ref h_this]) ++ List.replicate (1 - (lg_sl ([.ref h_this])).length) Slot.unset).toArray = ls at hl ⊢
  have hl : lv_has ls 1 [(0, .ref h_this)] := hl
  have hP : va_P G.1 vwCl (wd_X10_crossingCount G h_this h_now h_history h_over h_order h_colors h_row h_three h_seen h_group f_edits f_total a_now) s.heap := hP
  refine lv_aload_n hx hb dX10_crossingCount_0 rfl (lv_at hl 0 rfl) ?_
  refine va_get (D := G.1) (ci := 10) (v := .ref h_now) (C := RX10) (T := TX10) (N := 11) hx hb hts in_X10_crossingCount_X10 hown hE.1 hP 0 rfl rfl 0 (by decide) (hts (.fieldLink RX10 7 "QuandleColoringsModel" "now" "[I") lk_X10_crossingCount_7) (fun _ h9 => h9) rfl dX10_crossingCount_1 ?_
  refine lv_bipush (v := 86) hx hb dX10_crossingCount_4 (by decide) ?_
  have hin := hw.1
  have hw := hw.2
  refine va_iald hx hb hE.1 hP 1 0 rfl rfl hin dX10_crossingCount_6 ?_
  exact W.iret (v := (a_now (86 : Int32).toNatClampNeg)) hx hb hr (fun t ht hW => ⟨⟨(a_now (86 : Int32).toNatClampNeg), (), rfl, hw, by rw [ht]; exact hP, hD⟩, hS.F ht⟩) hS.2.2 dX10_crossingCount_7
-- QuandleColoringsModel.codes()I
abbrev rm_X10_codes : Room := { frames := 0, cells := 0, slots := 0, locals := 0 }
abbrev wd_X10_codes (G : qn_G) (h_this h_now h_history h_over h_order h_colors h_row h_three h_seen h_group : Nat) (f_edits : Int32) (f_total : Int32) (a_now : Nat → Int32) : va_W := [(h_this, .inr (10, [.ref h_now, .ref h_history, .int f_edits, .ref h_over, .ref h_order, .ref h_colors, .int f_total, .ref h_row, .ref h_three, .ref h_seen, .ref h_group])), (h_now, .inl (G.2.1, 88, .inl a_now))]
theorem in_X10_codes_X10 : ∀ w ∈ u_ws RX10 TX10 11, w ∈ wsX10_codes := by decide +kernel
theorem lk_X10_codes_7 : Cond.fieldLink RX10 7 "QuandleColoringsModel" "now" "[I" ∈ wsX10_codes := by decide +kernel
def wp_X10_codes_L4 (KL4 : Int32 → Prop) (a_now : Nat → Int32) : Nat → Int32 → Int32 → Prop
  | 0 => fun _ _ => False
  | fu + 1 => fun x1 x2 => (vp_in 85 88 ∧ (((a_now (85 : Int32).toNatClampNeg) ≤ x2 → (KL4 x1)) ∧ (¬ (a_now (85 : Int32).toNatClampNeg) ≤ x2 → (vp_in 84 88 ∧ (∀ x1_2 : Int32, x1_2 = x1 * (a_now (84 : Int32).toNatClampNeg) → (∀ x2_3 : Int32, x2_3 = x2 + 1 → ((wp_X10_codes_L4 KL4 a_now fu) x1_2 x2_3)))))))
def wp_X10_codes (post : Int32 → Prop) (a_now : Nat → Int32) : Prop := (∃ fu_5 : Nat, wp_X10_codes_L4 (fun (x1_4 : Int32) => (post x1_4)) a_now fu_5 1 0)
set_option maxHeartbeats 4000000 in
set_option maxRecDepth 100000 in
theorem l_X10_codes_4 {p : Program} {l : Launch} {e : Env} {s : State} {m : MethodId} {args : Array Value} {below : List Frame} {meth : Method} {c : Code} {G : qn_G} {A : Nat → Prop} {h_this h_now h_history h_over h_order h_colors h_row h_three h_seen h_group : Nat} {f_edits : Int32} {f_total : Int32} {a_now : Nat → Int32} {post : Int32 → Prop} {KL4 : Int32 → Prop} (C0 : qn_C p m c cX10_codes 3 s args wsX10_codes RX10 meth (some .int)) (hE : qn_EV G s) (hA : ∀ q, s.heap.size ≤ q → A q) (hKc : ∀ (x1 : Int32), KL4 x1 → ∀ (H : Heap) (locs : List Loc) (ls : Array Slot), va_P G.1 vwCl (wd_X10_codes G h_this h_now h_history h_over h_order h_colors h_row h_three h_seen h_group f_edits f_total a_now) H → va_D A (wd_X10_codes G h_this h_now h_history h_over h_order h_colors h_row h_three h_seen h_group f_edits f_total a_now) → va_S A s.heap H locs → lv_has ls 3 [(1, .int x1)] → W p l e (headSpec wsX10_codes rm_X10_codes).room s m args below meth c H locs 0 0 (MQ below (qn_QI G (fun (r : Int32) (u : Unit) => post r) (fun u : Unit => wd_X10_codes G h_this h_now h_history h_over h_order h_colors h_row h_three h_seen h_group f_edits f_total a_now) A) args s 0 0 A) (F0 m 31 ls [])) :
    ∀ (fu : Nat) (x1 : Int32) (x2 : Int32), wp_X10_codes_L4 KL4 a_now fu x1 x2 → ∀ (H : Heap) (locs : List Loc) (ls : Array Slot), va_P G.1 vwCl (wd_X10_codes G h_this h_now h_history h_over h_order h_colors h_row h_three h_seen h_group f_edits f_total a_now) H → va_D A (wd_X10_codes G h_this h_now h_history h_over h_order h_colors h_row h_three h_seen h_group f_edits f_total a_now) → va_S A s.heap H locs → lv_has ls 3 [(0, .ref h_this), (1, .int x1), (2, .int x2)] → W p l e (headSpec wsX10_codes rm_X10_codes).room s m args below meth c H locs 0 0 (MQ below (qn_QI G (fun (r : Int32) (u : Unit) => post r) (fun u : Unit => wd_X10_codes G h_this h_now h_history h_over h_order h_colors h_row h_three h_seen h_group f_edits f_total a_now) A) args s 0 0 A) (F0 m 4 ls []) := by
  obtain ⟨hx, hb, hml, hown, hts, hr, hlocks⟩ := id C0
  intro fu
  induction fu with
  | zero => intro x1 x2 hw; exact hw.elim
  | succ fu ih =>
    intro x1 x2 hw H locs ls hP hD hS hl
    refine lv_iload_n hx hb dX10_codes_4 rfl (lv_at hl 2 rfl) ?_
    refine lv_aload_n hx hb dX10_codes_5 rfl (lv_at hl 0 rfl) ?_
    refine va_get (D := G.1) (ci := 10) (v := .ref h_now) (C := RX10) (T := TX10) (N := 11) hx hb hts in_X10_codes_X10 hown hE.1 hP 0 rfl rfl 0 (by decide) (hts (.fieldLink RX10 7 "QuandleColoringsModel" "now" "[I") lk_X10_codes_7) (fun _ h9 => h9) rfl dX10_codes_6 ?_
    refine lv_bipush (v := 85) hx hb dX10_codes_9 (by decide) ?_
    have hin := hw.1
    have hw := hw.2
    refine va_iald hx hb hE.1 hP 1 0 rfl rfl hin dX10_codes_11 ?_
    refine lv_icmp_ge (tgt := 31) hx hb dX10_codes_12 (by decide) (fun c_1 => ?_) (fun c_1 => ?_)
    · have hw := hw.1 c_1
      exact hKc x1 hw _ _ _ hP hD hS (lv_sub hl [1] rfl)
    · have hw := hw.2 c_1
      refine lv_iload_n hx hb dX10_codes_15 rfl (lv_at hl 1 rfl) ?_
      refine lv_aload_n hx hb dX10_codes_16 rfl (lv_at hl 0 rfl) ?_
      refine va_get (D := G.1) (ci := 10) (v := .ref h_now) (C := RX10) (T := TX10) (N := 11) hx hb hts in_X10_codes_X10 hown hE.1 hP 0 rfl rfl 0 (by decide) (hts (.fieldLink RX10 7 "QuandleColoringsModel" "now" "[I") lk_X10_codes_7) (fun _ h9 => h9) rfl dX10_codes_17 ?_
      refine lv_bipush (v := 84) hx hb dX10_codes_20 (by decide) ?_
      have hin := hw.1
      have hw := hw.2
      refine va_iald hx hb hE.1 hP 1 0 rfl rfl hin dX10_codes_22 ?_
      refine lv_imul hx hb dX10_codes_23 ?_
      refine lv_topi (fun x1_2 ex1_2 => ?_)
      have hw := hw x1_2 ex1_2
      refine lv_istore_n (lv' := [(1, .int x1_2), (0, .ref h_this), (2, .int x2)]) hx hb dX10_codes_24 rfl hl (by decide) rfl (fun ls hl => ?_)
      obtain ⟨x2_3, ex2_3⟩ : ∃ y : Int32, y = x2 + 1 := ⟨_, rfl⟩
      have hw := hw x2_3 ex2_3
      refine lv_iinc (v := x2_3) (lv' := [(2, .int x2_3), (1, .int x1_2), (0, .ref h_this)]) hx hb dX10_codes_25 hl (k := 2) rfl (by rw [ex2_3]; rfl) (by decide) rfl (fun ls hl => ?_)
      refine lv_goto (tgt := 4) hx hb dX10_codes_28 (by decide) ?_
      exact ih x1_2 x2_3 hw _ _ _ hP hD hS (lv_sub hl [2, 1, 0] rfl)
set_option maxHeartbeats 4000000 in
set_option maxRecDepth 100000 in
theorem c_X10_codes {l : Launch} (G : qn_G) (sz : Nat) (h_this h_now h_history h_over h_order h_colors h_row h_three h_seen h_group : Nat) (f_edits : Int32) (f_total : Int32) (a_now : Nat → Int32) {post : Int32 → Prop} (hw : wp_X10_codes post a_now) : Met l yX10_codes wsX10_codes rm_X10_codes (qn_PC G [.ref h_this] sz (wd_X10_codes G h_this h_now h_history h_over h_order h_colors h_row h_three h_seen h_group f_edits f_total a_now)) (qn_QI G (fun (r : Int32) (u : Unit) => post r) (fun u : Unit => wd_X10_codes G h_this h_now h_history h_over h_order h_colors h_row h_three h_seen h_group f_edits f_total a_now) (va_A (wd_X10_codes G h_this h_now h_history h_over h_order h_colors h_row h_three h_seen h_group f_edits f_total a_now) sz)) 0 0 (va_A (wd_X10_codes G h_this h_now h_history h_over h_order h_colors h_row h_three h_seen h_group f_edits f_total a_now) sz) := by
  refine Met.ofW (cc := cX10_codes) (maxL := 3) (ret := (some .int)) (by decide) rfl ?_
  intro p e s m args below meth c s₁ B hml hv
  obtain ⟨rfl, hsz, hP, hE, hD0⟩ := hv
  have C0 : qn_C p m c cX10_codes 3 s _ wsX10_codes RX10 meth (some .int) := qn_C0 B hml
  obtain ⟨hx, hb, -, hown, hts, hr, hlocks⟩ := id C0
  subst hsz
  have hD := hD0.self (sz := s.heap.size)
  generalize hAe : va_A (wd_X10_codes G h_this h_now h_history h_over h_order h_colors h_row h_three h_seen h_group f_edits f_total a_now) s.heap.size = A at hD ⊢
  have hA : ∀ q : Nat, s.heap.size ≤ q → A q := fun q h => by rw [← hAe]; exact Or.inr h
  clear hAe
  have hS : va_S A s.heap s.heap [] := va_S.rf
  have hl := lv_entry ([.ref h_this]) (n := 3) (Nat.le_of_ble_eq_true rfl)
  rw [lg_entry_eq]
  generalize (lg_sl ([.ref h_this]) ++ List.replicate (3 - (lg_sl ([.ref h_this])).length) Slot.unset).toArray = ls at hl ⊢
  have hl : lv_has ls 3 [(0, .ref h_this)] := hl
  have hP : va_P G.1 vwCl (wd_X10_codes G h_this h_now h_history h_over h_order h_colors h_row h_three h_seen h_group f_edits f_total a_now) s.heap := hP
  refine lv_iconst (v := 1) hx hb dX10_codes_0 (by decide) ?_
  refine lv_istore_n (lv' := [(1, .int 1), (0, .ref h_this)]) hx hb dX10_codes_1 rfl hl (by decide) rfl (fun ls hl => ?_)
  refine lv_iconst (v := 0) hx hb dX10_codes_2 (by decide) ?_
  refine lv_istore_n (lv' := [(2, .int 0), (1, .int 1), (0, .ref h_this)]) hx hb dX10_codes_3 rfl hl (by decide) rfl (fun ls hl => ?_)
  obtain ⟨fu_5, hw⟩ := hw
  refine l_X10_codes_4 (post := post) C0 hE hA (fun x1_4 hw H locs ls hP hD hS hl => ?_) fu_5 1 0 hw _ _ _ hP hD hS (lv_sub hl [2, 1, 0] rfl)
  refine lv_iload_n hx hb dX10_codes_31 rfl (lv_at hl 0 rfl) ?_
  exact W.iret (v := x1_4) hx hb hr (fun t ht hW => ⟨⟨x1_4, (), rfl, hw, by rw [ht]; exact hP, hD⟩, hS.F ht⟩) hS.2.2 dX10_codes_32
-- QuandleColoringsModel.isColoring(I)Z
abbrev rm_X10_isColoring : Room := { frames := 1, cells := 0, slots := 0, locals := 22 }
abbrev wd_X10_isColoring (G : qn_G) (h_this h_now h_history h_over h_order h_colors h_row h_three h_seen h_group : Nat) (f_edits : Int32) (f_total : Int32) (a_now : Nat → Int32) (a_over : Nat → Int32) (a_colors : Nat → Int32) : va_W := [(h_this, .inr (10, [.ref h_now, .ref h_history, .int f_edits, .ref h_over, .ref h_order, .ref h_colors, .int f_total, .ref h_row, .ref h_three, .ref h_seen, .ref h_group])), (h_now, .inl (G.2.1, 88, .inl a_now)), (h_over, .inl (G.2.1, 36, .inl a_over)), (h_colors, .inl (G.2.1, 4, .inl a_colors))]
theorem in_X10_isColoring_X10 : ∀ w ∈ u_ws RX10 TX10 11, w ∈ wsX10_isColoring := by decide +kernel
theorem lk_X10_isColoring_16 : Cond.fieldLink RX10 16 "QuandleColoringsModel" "over" "[I" ∈ wsX10_isColoring := by decide +kernel
theorem lk_X10_isColoring_22 : Cond.fieldLink RX10 22 "QuandleColoringsModel" "colors" "[I" ∈ wsX10_isColoring := by decide +kernel
theorem lk_X10_isColoring_7 : Cond.fieldLink RX10 7 "QuandleColoringsModel" "now" "[I" ∈ wsX10_isColoring := by decide +kernel
theorem lk_X10_isColoring_95 : Cond.fieldLink RX10 95 "QuandleColoringsModel" "total" "I" ∈ wsX10_isColoring := by decide +kernel
def wp_X10_isColoring_L12 (KL12 : (Nat → Int32) → Prop) (a_now : Nat → Int32) : Nat → Int32 → Int32 → (Nat → Int32) → Prop
  | 0 => fun _ _ _ => False
  | fu + 1 => fun x2 x3 a_colors => ((x3 < 0 → (KL12 a_colors)) ∧ (¬ x3 < 0 → (vp_in 84 88 ∧ (¬ a_now (84 : Int32).toNatClampNeg = 0 ∧ (∀ z_3 : Int32, z_3 = x2 - x2 / (a_now (84 : Int32).toNatClampNeg) * (a_now (84 : Int32).toNatClampNeg) → (vp_in x3 4 ∧ (∀ a_colors_4 : Nat → Int32, a_colors_4 = upd a_colors x3.toNatClampNeg z_3 → (vp_in 84 88 ∧ (¬ a_now (84 : Int32).toNatClampNeg = 0 ∧ (∀ z_5 : Int32, z_5 = x2 / (a_now (84 : Int32).toNatClampNeg) → (∀ x3_6 : Int32, x3_6 = x3 + (-1) → ((wp_X10_isColoring_L12 KL12 a_now fu) z_5 x3_6 a_colors_4))))))))))))
def wp_X10_isColoring_J89 (BL54 : Int32 → Int32 → (Nat → Int32) → Prop) (x3 : Int32) (x4 : Int32) (z0 : Int32) (f_total : Int32) (a_now : Nat → Int32) (a_over : Nat → Int32) (a_colors : Nat → Int32) : Prop := (vp_in (z0 - 1) 4 ∧ (∀ x6_11 : Int32, x6_11 = a_colors (z0 - 1).toNatClampNeg → (vp_in z0 4 ∧ (∀ x7_12 : Int32, x7_12 = a_colors z0.toNatClampNeg → ((x4 ≤ 0 → (vp_in ((6 * x7_12) + x6_11) 36 ∧ (∀ x8_14 : Int32, x8_14 = a_over ((6 * x7_12) + x6_11).toNatClampNeg → (vp_in (z0 - 1) 4 ∧ (∀ a_colors_15 : Nat → Int32, a_colors_15 = upd a_colors (z0 - 1).toNatClampNeg x8_14 → (vp_in z0 4 ∧ (∀ a_colors_16 : Nat → Int32, a_colors_16 = upd a_colors_15 z0.toNatClampNeg x6_11 → (vp_in 87 88 ∧ (wp_X10_weightOf (fun (r_17 : Int32) => (∀ f_total_18 : Int32, f_total_18 = f_total + ((a_now (87 : Int32).toNatClampNeg) - r_17) → (∀ x3_19 : Int32, x3_19 = x3 + 1 → (BL54 x3_19 f_total_18 a_colors_16)))) a_now x8_14 x6_11))))))))) ∧ (¬ x4 ≤ 0 → (vp_in (z0 - 1) 4 ∧ (∀ a_colors_20 : Nat → Int32, a_colors_20 = upd a_colors (z0 - 1).toNatClampNeg x7_12 → (wp_X10_of (fun (r_21 : Int32) => (vp_in z0 4 ∧ (∀ a_colors_22 : Nat → Int32, a_colors_22 = upd a_colors_20 z0.toNatClampNeg r_21 → (wp_X10_weightOf (fun (r_23 : Int32) => (∀ f_total_24 : Int32, f_total_24 = f_total + r_23 → (∀ x3_25 : Int32, x3_25 = x3 + 1 → (BL54 x3_25 f_total_24 a_colors_22)))) a_now x6_11 x7_12)))) a_now x6_11 x7_12)))))))))
def wp_X10_isColoring_L54 (KL54 : Int32 → (Nat → Int32) → Prop) (a_now : Nat → Int32) (a_over : Nat → Int32) : Nat → Int32 → Int32 → (Nat → Int32) → Prop
  | 0 => fun _ _ _ => False
  | fu + 1 => fun x3 f_total a_colors => (vp_in 86 88 ∧ (((a_now (86 : Int32).toNatClampNeg) ≤ x3 → (KL54 f_total a_colors)) ∧ (¬ (a_now (86 : Int32).toNatClampNeg) ≤ x3 → (vp_in (72 + x3) 88 ∧ (∀ x4_9 : Int32, x4_9 = a_now (72 + x3).toNatClampNeg → ((0 ≤ x4_9 → (wp_X10_isColoring_J89 (wp_X10_isColoring_L54 KL54 a_now a_over fu) x3 x4_9 x4_9 f_total a_now a_over a_colors)) ∧ (¬ 0 ≤ x4_9 → (wp_X10_isColoring_J89 (wp_X10_isColoring_L54 KL54 a_now a_over fu) x3 x4_9 (-x4_9) f_total a_now a_over a_colors))))))))
def wp_X10_isColoring_L249 (KL249 : Int32 → Prop) (a_now : Nat → Int32) (a_colors : Nat → Int32) : Nat → Int32 → Int32 → Prop
  | 0 => fun _ _ => False
  | fu + 1 => fun x3 x4 => (vp_in 85 88 ∧ (((a_now (85 : Int32).toNatClampNeg) ≤ x4 → (KL249 x3)) ∧ (¬ (a_now (85 : Int32).toNatClampNeg) ≤ x4 → (vp_in 84 88 ∧ (vp_in x4 4 ∧ (∀ x3_61 : Int32, x3_61 = (x3 * (a_now (84 : Int32).toNatClampNeg)) + (a_colors x4.toNatClampNeg) → (∀ x4_62 : Int32, x4_62 = x4 + 1 → ((wp_X10_isColoring_L249 KL249 a_now a_colors fu) x3_61 x4_62))))))))
def wp_X10_isColoring (post : Int32 → Int32 → (Nat → Int32) → Prop) (a_now : Nat → Int32) (a_over : Nat → Int32) (a_colors : Nat → Int32) (x1 : Int32) : Prop := (vp_in 85 88 ∧ (∀ x3_1 : Int32, x3_1 = (a_now (85 : Int32).toNatClampNeg) - 1 → (∃ fu_67 : Nat, wp_X10_isColoring_L12 (fun (a_colors_7 : Nat → Int32) => (∃ fu_66 : Nat, wp_X10_isColoring_L54 (fun (f_total_57 : Int32) (a_colors_58 : Nat → Int32) => (vp_in 87 88 ∧ (¬ a_now (87 : Int32).toNatClampNeg = 0 ∧ (∀ z_59 : Int32, z_59 = f_total_57 - f_total_57 / (a_now (87 : Int32).toNatClampNeg) * (a_now (87 : Int32).toNatClampNeg) → (∃ fu_65 : Nat, wp_X10_isColoring_L249 (fun (x3_63 : Int32) => ((¬ x3_63 = x1 → (post 0 z_59 a_colors_58)) ∧ (x3_63 = x1 → (post 1 z_59 a_colors_58)))) a_now a_colors_58 fu_65 0 0))))) a_now a_over fu_66 0 0 a_colors_7)) a_now fu_67 x1 x3_1 a_colors)))
set_option maxHeartbeats 4000000 in
set_option maxRecDepth 100000 in
theorem l_X10_isColoring_12 {p : Program} {l : Launch} {e : Env} {s : State} {m : MethodId} {args : Array Value} {below : List Frame} {meth : Method} {c : Code} {G : qn_G} {A : Nat → Prop} {h_this h_now h_history h_over h_order h_colors h_row h_three h_seen h_group : Nat} {f_edits : Int32} {f_total : Int32} {a_now : Nat → Int32} {a_over : Nat → Int32} {x1 : Int32} {post : Int32 → Int32 → (Nat → Int32) → Prop} {KL12 : (Nat → Int32) → Prop} (C0 : qn_C p m c cX10_isColoring 9 s args wsX10_isColoring RX10 meth (some .boolean)) (hE : qn_EV G s) (hA : ∀ q, s.heap.size ≤ q → A q) (hKc : ∀ (a_colors : Nat → Int32), KL12 a_colors → ∀ (H : Heap) (locs : List Loc) (ls : Array Slot), va_P G.1 vwCl (wd_X10_isColoring G h_this h_now h_history h_over h_order h_colors h_row h_three h_seen h_group f_edits f_total a_now a_over a_colors) H → va_D A (wd_X10_isColoring G h_this h_now h_history h_over h_order h_colors h_row h_three h_seen h_group f_edits f_total a_now a_over a_colors) → va_S A s.heap H locs → lv_has ls 9 [(0, .ref h_this), (1, .int x1)] → W p l e (headSpec wsX10_isColoring rm_X10_isColoring).room s m args below meth c H locs 0 0 (MQ below (qn_QI G (fun (r : Int32) (u : Int32 × (Nat → Int32)) => post r u.1 u.2) (fun u : Int32 × (Nat → Int32) => wd_X10_isColoring G h_this h_now h_history h_over h_order h_colors h_row h_three h_seen h_group f_edits (u.1) a_now a_over (u.2)) A) args s 0 0 A) (F0 m 47 ls [])) :
    ∀ (fu : Nat) (x2 : Int32) (x3 : Int32) (a_colors : Nat → Int32), wp_X10_isColoring_L12 KL12 a_now fu x2 x3 a_colors → ∀ (H : Heap) (locs : List Loc) (ls : Array Slot), va_P G.1 vwCl (wd_X10_isColoring G h_this h_now h_history h_over h_order h_colors h_row h_three h_seen h_group f_edits f_total a_now a_over a_colors) H → va_D A (wd_X10_isColoring G h_this h_now h_history h_over h_order h_colors h_row h_three h_seen h_group f_edits f_total a_now a_over a_colors) → va_S A s.heap H locs → lv_has ls 9 [(0, .ref h_this), (1, .int x1), (2, .int x2), (3, .int x3)] → W p l e (headSpec wsX10_isColoring rm_X10_isColoring).room s m args below meth c H locs 0 0 (MQ below (qn_QI G (fun (r : Int32) (u : Int32 × (Nat → Int32)) => post r u.1 u.2) (fun u : Int32 × (Nat → Int32) => wd_X10_isColoring G h_this h_now h_history h_over h_order h_colors h_row h_three h_seen h_group f_edits (u.1) a_now a_over (u.2)) A) args s 0 0 A) (F0 m 12 ls []) := by
  obtain ⟨hx, hb, hml, hown, hts, hr, hlocks⟩ := id C0
  intro fu
  induction fu with
  | zero => intro x2 x3 a_colors hw; exact hw.elim
  | succ fu ih =>
    intro x2 x3 a_colors hw H locs ls hP hD hS hl
    refine lv_iload_n hx hb dX10_isColoring_12 rfl (lv_at hl 3 rfl) ?_
    refine lv_if_lt (tgt := 47) hx hb dX10_isColoring_13 (by decide) (fun c_2 => ?_) (fun c_2 => ?_)
    · have hw := hw.1 c_2
      exact hKc a_colors hw _ _ _ hP hD hS (lv_sub hl [0, 1] rfl)
    · have hw := hw.2 c_2
      refine lv_aload_n hx hb dX10_isColoring_16 rfl (lv_at hl 0 rfl) ?_
      refine va_get (D := G.1) (ci := 10) (v := .ref h_colors) (C := RX10) (T := TX10) (N := 11) hx hb hts in_X10_isColoring_X10 hown hE.1 hP 0 rfl rfl 5 (by decide) (hts (.fieldLink RX10 22 "QuandleColoringsModel" "colors" "[I") lk_X10_isColoring_22) (fun _ h9 => h9) rfl dX10_isColoring_17 ?_
      refine lv_iload_n hx hb dX10_isColoring_20 rfl (lv_at hl 3 rfl) ?_
      refine lv_iload_n hx hb dX10_isColoring_21 rfl (lv_at hl 2 rfl) ?_
      refine lv_aload_n hx hb dX10_isColoring_22 rfl (lv_at hl 0 rfl) ?_
      refine va_get (D := G.1) (ci := 10) (v := .ref h_now) (C := RX10) (T := TX10) (N := 11) hx hb hts in_X10_isColoring_X10 hown hE.1 hP 0 rfl rfl 0 (by decide) (hts (.fieldLink RX10 7 "QuandleColoringsModel" "now" "[I") lk_X10_isColoring_7) (fun _ h9 => h9) rfl dX10_isColoring_23 ?_
      refine lv_bipush (v := 84) hx hb dX10_isColoring_26 (by decide) ?_
      have hin := hw.1
      have hw := hw.2
      refine va_iald hx hb hE.1 hP 1 0 rfl rfl hin dX10_isColoring_28 ?_
      have hne := hw.1
      have hw := hw.2
      refine lv_irem hx hb dX10_isColoring_29 hne ?_
      refine lv_topi (fun z_3 ez_3 => ?_)
      have hw := hw z_3 ez_3
      have hin := hw.1
      have hw := hw.2
      obtain ⟨a_colors_4, ea_colors_4⟩ : ∃ y : Nat → Int32, y = upd a_colors x3.toNatClampNeg z_3 := ⟨_, rfl⟩
      have hw := hw a_colors_4 ea_colors_4
      refine va_iast hx hb hE.1 hP hD hS 3 0 rfl rfl hin dX10_isColoring_30 (fun H locs hP hD hS => ?_)
      rw [← ea_colors_4] at hP hD
      have hP : va_P G.1 vwCl (wd_X10_isColoring G h_this h_now h_history h_over h_order h_colors h_row h_three h_seen h_group f_edits f_total a_now a_over a_colors_4) H := hP
      have hD : va_D A (wd_X10_isColoring G h_this h_now h_history h_over h_order h_colors h_row h_three h_seen h_group f_edits f_total a_now a_over a_colors_4) := hD
      refine lv_iload_n hx hb dX10_isColoring_31 rfl (lv_at hl 2 rfl) ?_
      refine lv_aload_n hx hb dX10_isColoring_32 rfl (lv_at hl 0 rfl) ?_
      refine va_get (D := G.1) (ci := 10) (v := .ref h_now) (C := RX10) (T := TX10) (N := 11) hx hb hts in_X10_isColoring_X10 hown hE.1 hP 0 rfl rfl 0 (by decide) (hts (.fieldLink RX10 7 "QuandleColoringsModel" "now" "[I") lk_X10_isColoring_7) (fun _ h9 => h9) rfl dX10_isColoring_33 ?_
      refine lv_bipush (v := 84) hx hb dX10_isColoring_36 (by decide) ?_
      have hin := hw.1
      have hw := hw.2
      refine va_iald hx hb hE.1 hP 1 0 rfl rfl hin dX10_isColoring_38 ?_
      have hne := hw.1
      have hw := hw.2
      refine lv_idiv hx hb dX10_isColoring_39 hne ?_
      refine lv_topi (fun z_5 ez_5 => ?_)
      have hw := hw z_5 ez_5
      refine lv_istore_n (lv' := [(2, .int z_5), (0, .ref h_this), (1, .int x1), (3, .int x3)]) hx hb dX10_isColoring_40 rfl hl (by decide) rfl (fun ls hl => ?_)
      obtain ⟨x3_6, ex3_6⟩ : ∃ y : Int32, y = x3 + (-1) := ⟨_, rfl⟩
      have hw := hw x3_6 ex3_6
      refine lv_iinc (v := x3_6) (lv' := [(3, .int x3_6), (2, .int z_5), (0, .ref h_this), (1, .int x1)]) hx hb dX10_isColoring_41 hl (k := 3) rfl (by rw [ex3_6]; rfl) (by decide) rfl (fun ls hl => ?_)
      refine lv_goto (tgt := 12) hx hb dX10_isColoring_44 (by decide) ?_
      exact ih z_5 x3_6 a_colors_4 hw _ _ _ hP hD hS (lv_sub hl [2, 3, 1, 0] rfl)
set_option maxHeartbeats 4000000 in
set_option maxRecDepth 100000 in
theorem l_X10_isColoring_54 {p : Program} {l : Launch} {e : Env} {s : State} {m : MethodId} {args : Array Value} {below : List Frame} {meth : Method} {c : Code} {G : qn_G} {A : Nat → Prop} {h_this h_now h_history h_over h_order h_colors h_row h_three h_seen h_group : Nat} {f_edits : Int32} {a_now : Nat → Int32} {a_over : Nat → Int32} {x1 : Int32} {post : Int32 → Int32 → (Nat → Int32) → Prop} {KL54 : Int32 → (Nat → Int32) → Prop} (C0 : qn_C p m c cX10_isColoring 9 s args wsX10_isColoring RX10 meth (some .boolean)) (hE : qn_EV G s) (hA : ∀ q, s.heap.size ≤ q → A q) (hKc : ∀ (f_total : Int32) (a_colors : Nat → Int32), KL54 f_total a_colors → ∀ (H : Heap) (locs : List Loc) (ls : Array Slot), va_P G.1 vwCl (wd_X10_isColoring G h_this h_now h_history h_over h_order h_colors h_row h_three h_seen h_group f_edits f_total a_now a_over a_colors) H → va_D A (wd_X10_isColoring G h_this h_now h_history h_over h_order h_colors h_row h_three h_seen h_group f_edits f_total a_now a_over a_colors) → va_S A s.heap H locs → lv_has ls 9 [(0, .ref h_this), (1, .int x1)] → W p l e (headSpec wsX10_isColoring rm_X10_isColoring).room s m args below meth c H locs 0 0 (MQ below (qn_QI G (fun (r : Int32) (u : Int32 × (Nat → Int32)) => post r u.1 u.2) (fun u : Int32 × (Nat → Int32) => wd_X10_isColoring G h_this h_now h_history h_over h_order h_colors h_row h_three h_seen h_group f_edits (u.1) a_now a_over (u.2)) A) args s 0 0 A) (F0 m 228 ls [])) :
    ∀ (fu : Nat) (x3 : Int32) (f_total : Int32) (a_colors : Nat → Int32), wp_X10_isColoring_L54 KL54 a_now a_over fu x3 f_total a_colors → ∀ (H : Heap) (locs : List Loc) (ls : Array Slot), va_P G.1 vwCl (wd_X10_isColoring G h_this h_now h_history h_over h_order h_colors h_row h_three h_seen h_group f_edits f_total a_now a_over a_colors) H → va_D A (wd_X10_isColoring G h_this h_now h_history h_over h_order h_colors h_row h_three h_seen h_group f_edits f_total a_now a_over a_colors) → va_S A s.heap H locs → lv_has ls 9 [(0, .ref h_this), (1, .int x1), (3, .int x3)] → W p l e (headSpec wsX10_isColoring rm_X10_isColoring).room s m args below meth c H locs 0 0 (MQ below (qn_QI G (fun (r : Int32) (u : Int32 × (Nat → Int32)) => post r u.1 u.2) (fun u : Int32 × (Nat → Int32) => wd_X10_isColoring G h_this h_now h_history h_over h_order h_colors h_row h_three h_seen h_group f_edits (u.1) a_now a_over (u.2)) A) args s 0 0 A) (F0 m 54 ls []) := by
  obtain ⟨hx, hb, hml, hown, hts, hr, hlocks⟩ := id C0
  intro fu
  induction fu with
  | zero => intro x3 f_total a_colors hw; exact hw.elim
  | succ fu ih =>
    intro x3 f_total a_colors hw H locs ls hP hD hS hl
    refine lv_iload_n hx hb dX10_isColoring_54 rfl (lv_at hl 2 rfl) ?_
    refine lv_aload_n hx hb dX10_isColoring_55 rfl (lv_at hl 0 rfl) ?_
    refine va_get (D := G.1) (ci := 10) (v := .ref h_now) (C := RX10) (T := TX10) (N := 11) hx hb hts in_X10_isColoring_X10 hown hE.1 hP 0 rfl rfl 0 (by decide) (hts (.fieldLink RX10 7 "QuandleColoringsModel" "now" "[I") lk_X10_isColoring_7) (fun _ h9 => h9) rfl dX10_isColoring_56 ?_
    refine lv_bipush (v := 86) hx hb dX10_isColoring_59 (by decide) ?_
    have hin := hw.1
    have hw := hw.2
    refine va_iald hx hb hE.1 hP 1 0 rfl rfl hin dX10_isColoring_61 ?_
    refine lv_icmp_ge (tgt := 228) hx hb dX10_isColoring_62 (by decide) (fun c_8 => ?_) (fun c_8 => ?_)
    · have hw := hw.1 c_8
      exact hKc f_total a_colors hw _ _ _ hP hD hS (lv_sub hl [0, 1] rfl)
    · have hw := hw.2 c_8
      refine lv_aload_n hx hb dX10_isColoring_65 rfl (lv_at hl 0 rfl) ?_
      refine va_get (D := G.1) (ci := 10) (v := .ref h_now) (C := RX10) (T := TX10) (N := 11) hx hb hts in_X10_isColoring_X10 hown hE.1 hP 0 rfl rfl 0 (by decide) (hts (.fieldLink RX10 7 "QuandleColoringsModel" "now" "[I") lk_X10_isColoring_7) (fun _ h9 => h9) rfl dX10_isColoring_66 ?_
      refine lv_bipush (v := 72) hx hb dX10_isColoring_69 (by decide) ?_
      refine lv_iload_n hx hb dX10_isColoring_71 rfl (lv_at hl 2 rfl) ?_
      refine lv_iadd hx hb dX10_isColoring_72 ?_
      have hin := hw.1
      have hw := hw.2
      refine va_iald hx hb hE.1 hP 1 0 rfl rfl hin dX10_isColoring_73 ?_
      refine lv_topi (fun x4_9 ex4_9 => ?_)
      have hw := hw x4_9 ex4_9
      refine lv_istore (lv' := [(4, .int x4_9), (0, .ref h_this), (1, .int x1), (3, .int x3)]) hx hb dX10_isColoring_74 hl (by decide) rfl (fun ls hl => ?_)
      refine lv_iload hx hb dX10_isColoring_76 (lv_at hl 0 rfl) ?_
      refine lv_if_ge (tgt := 87) hx hb dX10_isColoring_78 (by decide) (fun c_10 => ?_) (fun c_10 => ?_)
      · have hw := hw.1 c_10
        refine lv_iload hx hb dX10_isColoring_87 (lv_at hl 0 rfl) ?_
        refine lv_istore (lv' := [(5, .int x4_9), (4, .int x4_9), (0, .ref h_this), (1, .int x1), (3, .int x3)]) hx hb dX10_isColoring_89 hl (by decide) rfl (fun ls hl => ?_)
        refine lv_aload_n hx hb dX10_isColoring_91 rfl (lv_at hl 2 rfl) ?_
        refine va_get (D := G.1) (ci := 10) (v := .ref h_colors) (C := RX10) (T := TX10) (N := 11) hx hb hts in_X10_isColoring_X10 hown hE.1 hP 0 rfl rfl 5 (by decide) (hts (.fieldLink RX10 22 "QuandleColoringsModel" "colors" "[I") lk_X10_isColoring_22) (fun _ h9 => h9) rfl dX10_isColoring_92 ?_
        refine lv_iload hx hb dX10_isColoring_95 (lv_at hl 0 rfl) ?_
        refine lv_iconst (v := 1) hx hb dX10_isColoring_97 (by decide) ?_
        refine lv_isub hx hb dX10_isColoring_98 ?_
        have hin := hw.1
        have hw := hw.2
        refine va_iald hx hb hE.1 hP 3 0 rfl rfl hin dX10_isColoring_99 ?_
        refine lv_topi (fun x6_26 ex6_26 => ?_)
        have hw := hw x6_26 ex6_26
        refine lv_istore (lv' := [(6, .int x6_26), (5, .int x4_9), (4, .int x4_9), (0, .ref h_this), (1, .int x1), (3, .int x3)]) hx hb dX10_isColoring_100 hl (by decide) rfl (fun ls hl => ?_)
        refine lv_aload_n hx hb dX10_isColoring_102 rfl (lv_at hl 3 rfl) ?_
        refine va_get (D := G.1) (ci := 10) (v := .ref h_colors) (C := RX10) (T := TX10) (N := 11) hx hb hts in_X10_isColoring_X10 hown hE.1 hP 0 rfl rfl 5 (by decide) (hts (.fieldLink RX10 22 "QuandleColoringsModel" "colors" "[I") lk_X10_isColoring_22) (fun _ h9 => h9) rfl dX10_isColoring_103 ?_
        refine lv_iload hx hb dX10_isColoring_106 (lv_at hl 1 rfl) ?_
        have hin := hw.1
        have hw := hw.2
        refine va_iald hx hb hE.1 hP 3 0 rfl rfl hin dX10_isColoring_108 ?_
        refine lv_topi (fun x7_27 ex7_27 => ?_)
        have hw := hw x7_27 ex7_27
        refine lv_istore (lv' := [(7, .int x7_27), (6, .int x6_26), (5, .int x4_9), (4, .int x4_9), (0, .ref h_this), (1, .int x1), (3, .int x3)]) hx hb dX10_isColoring_109 hl (by decide) rfl (fun ls hl => ?_)
        refine lv_iload hx hb dX10_isColoring_111 (lv_at hl 3 rfl) ?_
        refine lv_if_le (tgt := 162) hx hb dX10_isColoring_113 (by decide) (fun c_28 => ?_) (fun c_28 => ?_)
        · have hw := hw.1 c_28
          refine lv_aload_n hx hb dX10_isColoring_162 rfl (lv_at hl 4 rfl) ?_
          refine va_get (D := G.1) (ci := 10) (v := .ref h_over) (C := RX10) (T := TX10) (N := 11) hx hb hts in_X10_isColoring_X10 hown hE.1 hP 0 rfl rfl 3 (by decide) (hts (.fieldLink RX10 16 "QuandleColoringsModel" "over" "[I") lk_X10_isColoring_16) (fun _ h9 => h9) rfl dX10_isColoring_163 ?_
          refine lv_bipush (v := 6) hx hb dX10_isColoring_166 (by decide) ?_
          refine lv_iload hx hb dX10_isColoring_168 (lv_at hl 0 rfl) ?_
          refine lv_imul hx hb dX10_isColoring_170 ?_
          refine lv_iload hx hb dX10_isColoring_171 (lv_at hl 1 rfl) ?_
          refine lv_iadd hx hb dX10_isColoring_173 ?_
          have hin := hw.1
          have hw := hw.2
          refine va_iald hx hb hE.1 hP 2 0 rfl rfl hin dX10_isColoring_174 ?_
          refine lv_topi (fun x8_29 ex8_29 => ?_)
          have hw := hw x8_29 ex8_29
          refine lv_istore (lv' := [(8, .int x8_29), (7, .int x7_27), (6, .int x6_26), (5, .int x4_9), (4, .int x4_9), (0, .ref h_this), (1, .int x1), (3, .int x3)]) hx hb dX10_isColoring_175 hl (by decide) rfl (fun ls hl => ?_)
          refine lv_aload_n hx hb dX10_isColoring_177 rfl (lv_at hl 5 rfl) ?_
          refine va_get (D := G.1) (ci := 10) (v := .ref h_colors) (C := RX10) (T := TX10) (N := 11) hx hb hts in_X10_isColoring_X10 hown hE.1 hP 0 rfl rfl 5 (by decide) (hts (.fieldLink RX10 22 "QuandleColoringsModel" "colors" "[I") lk_X10_isColoring_22) (fun _ h9 => h9) rfl dX10_isColoring_178 ?_
          refine lv_iload hx hb dX10_isColoring_181 (lv_at hl 3 rfl) ?_
          refine lv_iconst (v := 1) hx hb dX10_isColoring_183 (by decide) ?_
          refine lv_isub hx hb dX10_isColoring_184 ?_
          refine lv_iload hx hb dX10_isColoring_185 (lv_at hl 0 rfl) ?_
          have hin := hw.1
          have hw := hw.2
          obtain ⟨a_colors_30, ea_colors_30⟩ : ∃ y : Nat → Int32, y = upd a_colors (x4_9 - 1).toNatClampNeg x8_29 := ⟨_, rfl⟩
          have hw := hw a_colors_30 ea_colors_30
          refine va_iast hx hb hE.1 hP hD hS 3 0 rfl rfl hin dX10_isColoring_187 (fun H locs hP hD hS => ?_)
          rw [← ea_colors_30] at hP hD
          have hP : va_P G.1 vwCl (wd_X10_isColoring G h_this h_now h_history h_over h_order h_colors h_row h_three h_seen h_group f_edits f_total a_now a_over a_colors_30) H := hP
          have hD : va_D A (wd_X10_isColoring G h_this h_now h_history h_over h_order h_colors h_row h_three h_seen h_group f_edits f_total a_now a_over a_colors_30) := hD
          refine lv_aload_n hx hb dX10_isColoring_188 rfl (lv_at hl 5 rfl) ?_
          refine va_get (D := G.1) (ci := 10) (v := .ref h_colors) (C := RX10) (T := TX10) (N := 11) hx hb hts in_X10_isColoring_X10 hown hE.1 hP 0 rfl rfl 5 (by decide) (hts (.fieldLink RX10 22 "QuandleColoringsModel" "colors" "[I") lk_X10_isColoring_22) (fun _ h9 => h9) rfl dX10_isColoring_189 ?_
          refine lv_iload hx hb dX10_isColoring_192 (lv_at hl 3 rfl) ?_
          refine lv_iload hx hb dX10_isColoring_194 (lv_at hl 2 rfl) ?_
          have hin := hw.1
          have hw := hw.2
          obtain ⟨a_colors_31, ea_colors_31⟩ : ∃ y : Nat → Int32, y = upd a_colors_30 x4_9.toNatClampNeg x6_26 := ⟨_, rfl⟩
          have hw := hw a_colors_31 ea_colors_31
          refine va_iast hx hb hE.1 hP hD hS 3 0 rfl rfl hin dX10_isColoring_196 (fun H locs hP hD hS => ?_)
          rw [← ea_colors_31] at hP hD
          have hP : va_P G.1 vwCl (wd_X10_isColoring G h_this h_now h_history h_over h_order h_colors h_row h_three h_seen h_group f_edits f_total a_now a_over a_colors_31) H := hP
          have hD : va_D A (wd_X10_isColoring G h_this h_now h_history h_over h_order h_colors h_row h_three h_seen h_group f_edits f_total a_now a_over a_colors_31) := hD
          refine lv_aload_n hx hb dX10_isColoring_197 rfl (lv_at hl 5 rfl) ?_
          refine lv_dup hx hb dX10_isColoring_198 rfl ?_
          refine va_get (D := G.1) (ci := 10) (v := .int f_total) (C := RX10) (T := TX10) (N := 11) hx hb hts in_X10_isColoring_X10 hown hE.1 hP 0 rfl rfl 6 (by decide) (hts (.fieldLink RX10 95 "QuandleColoringsModel" "total" "I") lk_X10_isColoring_95) (fun _ h9 => h9) rfl dX10_isColoring_199 ?_
          refine lv_aload_n hx hb dX10_isColoring_202 rfl (lv_at hl 5 rfl) ?_
          refine va_get (D := G.1) (ci := 10) (v := .ref h_now) (C := RX10) (T := TX10) (N := 11) hx hb hts in_X10_isColoring_X10 hown hE.1 hP 0 rfl rfl 0 (by decide) (hts (.fieldLink RX10 7 "QuandleColoringsModel" "now" "[I") lk_X10_isColoring_7) (fun _ h9 => h9) rfl dX10_isColoring_203 ?_
          refine lv_bipush (v := 87) hx hb dX10_isColoring_206 (by decide) ?_
          have hin := hw.1
          have hw := hw.2
          refine va_iald hx hb hE.1 hP 1 0 rfl rfl hin dX10_isColoring_208 ?_
          refine lv_aload_n hx hb dX10_isColoring_209 rfl (lv_at hl 5 rfl) ?_
          refine lv_iload hx hb dX10_isColoring_210 (lv_at hl 0 rfl) ?_
          refine lv_iload hx hb dX10_isColoring_212 (lv_at hl 2 rfl) ?_
          have hC9 : ([0, 1]).map (fun i => (wd_X10_isColoring G h_this h_now h_history h_over h_order h_colors h_row h_three h_seen h_group f_edits f_total a_now a_over a_colors_31)[i]?) = (wd_X10_weightOf G h_this h_now h_history h_over h_order h_colors h_row h_three h_seen h_group f_edits f_total a_now).map some := rfl
          refine qn_callI (wd := (fun u : Unit => wd_X10_isColoring G h_this h_now h_history h_over h_order h_colors h_row h_three h_seen h_group f_edits f_total a_now a_over a_colors_31)) [0, 1] (va_runV (As := [.int x8_29, .int x6_26]) (rest := [.int (a_now (87 : Int32).toNatClampNeg), .int f_total, .ref h_this]) ⟨hx, hb, hml, hown, hts⟩ (c_X10_weightOf G _ h_this h_now h_history h_over h_order h_colors h_row h_three h_seen h_group f_edits f_total a_now x8_29 x6_26 hw) (cwV 2 hts gX10_isColoring_X10_weightOf rfl rfl rfl (by decide +kernel) ⟨Nat.le_of_ble_eq_true rfl, Nat.le_of_ble_eq_true rfl⟩) (qn_preV hE hP hD [0, 1] hC9 (by decide +kernel) (ci := 10) rfl rfl) rfl rfl hl.1 rfl (lv_room (Nat.le_of_ble_eq_true rfl)) dX10_isColoring_214 ⟨Nat.le_of_ble_eq_true rfl, Nat.le_of_ble_eq_true rfl⟩) hP hD hS hA hC9 [some 0, some 1, none, none] (M := 4) rfl (by decide +kernel) (fun _ => rfl) (fun _ => rfl) (fun r_32 _ H locs hw hP hD hS => ?_)
          try dsimp only at hw
          have hP : va_P G.1 vwCl (wd_X10_isColoring G h_this h_now h_history h_over h_order h_colors h_row h_three h_seen h_group f_edits f_total a_now a_over a_colors_31) H := hP
          have hD : va_D A (wd_X10_isColoring G h_this h_now h_history h_over h_order h_colors h_row h_three h_seen h_group f_edits f_total a_now a_over a_colors_31) := hD
          refine lv_isub hx hb dX10_isColoring_217 ?_
          refine lv_iadd hx hb dX10_isColoring_218 ?_
          refine lv_topi (fun f_total_33 ef_total_33 => ?_)
          have hw := hw f_total_33 ef_total_33
          refine va_put (D := G.1) (ci := 10) (v := .int f_total_33) (ty := .int) (C := RX10) (T := TX10) (N := 11) hx hb hts in_X10_isColoring_X10 tyX10 tyX10_ok nmX10 hown hE.1 hP hD hS 0 rfl rfl 6 (by decide) (hts (.fieldLink RX10 95 "QuandleColoringsModel" "total" "I") lk_X10_isColoring_95) (fun _ h9 => h9) rfl (by decide +kernel) rfl rfl (Nat.le_of_ble_eq_true rfl) dX10_isColoring_219 (fun H locs hP hD hS => ?_)
          have hP : va_P G.1 vwCl (wd_X10_isColoring G h_this h_now h_history h_over h_order h_colors h_row h_three h_seen h_group f_edits f_total_33 a_now a_over a_colors_31) H := hP
          have hD : va_D A (wd_X10_isColoring G h_this h_now h_history h_over h_order h_colors h_row h_three h_seen h_group f_edits f_total_33 a_now a_over a_colors_31) := hD
          obtain ⟨x3_34, ex3_34⟩ : ∃ y : Int32, y = x3 + 1 := ⟨_, rfl⟩
          have hw := hw x3_34 ex3_34
          refine lv_iinc (v := x3_34) (lv' := [(3, .int x3_34), (8, .int x8_29), (7, .int x7_27), (6, .int x6_26), (5, .int x4_9), (4, .int x4_9), (0, .ref h_this), (1, .int x1)]) hx hb dX10_isColoring_222 hl (k := 7) rfl (by rw [ex3_34]; rfl) (by decide) rfl (fun ls hl => ?_)
          refine lv_goto (tgt := 54) hx hb dX10_isColoring_225 (by decide) ?_
          exact ih x3_34 f_total_33 a_colors_31 hw _ _ _ hP hD hS (lv_sub hl [6, 7, 0] rfl)
        · have hw := hw.2 c_28
          refine lv_aload_n hx hb dX10_isColoring_116 rfl (lv_at hl 4 rfl) ?_
          refine va_get (D := G.1) (ci := 10) (v := .ref h_colors) (C := RX10) (T := TX10) (N := 11) hx hb hts in_X10_isColoring_X10 hown hE.1 hP 0 rfl rfl 5 (by decide) (hts (.fieldLink RX10 22 "QuandleColoringsModel" "colors" "[I") lk_X10_isColoring_22) (fun _ h9 => h9) rfl dX10_isColoring_117 ?_
          refine lv_iload hx hb dX10_isColoring_120 (lv_at hl 2 rfl) ?_
          refine lv_iconst (v := 1) hx hb dX10_isColoring_122 (by decide) ?_
          refine lv_isub hx hb dX10_isColoring_123 ?_
          refine lv_iload hx hb dX10_isColoring_124 (lv_at hl 0 rfl) ?_
          have hin := hw.1
          have hw := hw.2
          obtain ⟨a_colors_35, ea_colors_35⟩ : ∃ y : Nat → Int32, y = upd a_colors (x4_9 - 1).toNatClampNeg x7_27 := ⟨_, rfl⟩
          have hw := hw a_colors_35 ea_colors_35
          refine va_iast hx hb hE.1 hP hD hS 3 0 rfl rfl hin dX10_isColoring_126 (fun H locs hP hD hS => ?_)
          rw [← ea_colors_35] at hP hD
          have hP : va_P G.1 vwCl (wd_X10_isColoring G h_this h_now h_history h_over h_order h_colors h_row h_three h_seen h_group f_edits f_total a_now a_over a_colors_35) H := hP
          have hD : va_D A (wd_X10_isColoring G h_this h_now h_history h_over h_order h_colors h_row h_three h_seen h_group f_edits f_total a_now a_over a_colors_35) := hD
          refine lv_aload_n hx hb dX10_isColoring_127 rfl (lv_at hl 4 rfl) ?_
          refine va_get (D := G.1) (ci := 10) (v := .ref h_colors) (C := RX10) (T := TX10) (N := 11) hx hb hts in_X10_isColoring_X10 hown hE.1 hP 0 rfl rfl 5 (by decide) (hts (.fieldLink RX10 22 "QuandleColoringsModel" "colors" "[I") lk_X10_isColoring_22) (fun _ h9 => h9) rfl dX10_isColoring_128 ?_
          refine lv_iload hx hb dX10_isColoring_131 (lv_at hl 2 rfl) ?_
          refine lv_aload_n hx hb dX10_isColoring_133 rfl (lv_at hl 4 rfl) ?_
          refine lv_iload hx hb dX10_isColoring_134 (lv_at hl 1 rfl) ?_
          refine lv_iload hx hb dX10_isColoring_136 (lv_at hl 0 rfl) ?_
          have hC9 : ([0, 1]).map (fun i => (wd_X10_isColoring G h_this h_now h_history h_over h_order h_colors h_row h_three h_seen h_group f_edits f_total a_now a_over a_colors_35)[i]?) = (wd_X10_of G h_this h_now h_history h_over h_order h_colors h_row h_three h_seen h_group f_edits f_total a_now).map some := rfl
          refine qn_callI (wd := (fun u : Unit => wd_X10_isColoring G h_this h_now h_history h_over h_order h_colors h_row h_three h_seen h_group f_edits f_total a_now a_over a_colors_35)) [0, 1] (va_runV (As := [.int x6_26, .int x7_27]) (rest := [.int x4_9, .ref h_colors]) ⟨hx, hb, hml, hown, hts⟩ (c_X10_of G _ h_this h_now h_history h_over h_order h_colors h_row h_three h_seen h_group f_edits f_total a_now x6_26 x7_27 hw) (cwV 2 hts gX10_isColoring_X10_of rfl rfl rfl (by decide +kernel) ⟨Nat.le_of_ble_eq_true rfl, Nat.le_of_ble_eq_true rfl⟩) (qn_preV hE hP hD [0, 1] hC9 (by decide +kernel) (ci := 10) rfl rfl) rfl rfl hl.1 rfl (lv_room (Nat.le_of_ble_eq_true rfl)) dX10_isColoring_138 ⟨Nat.le_of_ble_eq_true rfl, Nat.le_of_ble_eq_true rfl⟩) hP hD hS hA hC9 [some 0, some 1, none, none] (M := 4) rfl (by decide +kernel) (fun _ => rfl) (fun _ => rfl) (fun r_36 _ H locs hw hP hD hS => ?_)
          try dsimp only at hw
          have hP : va_P G.1 vwCl (wd_X10_isColoring G h_this h_now h_history h_over h_order h_colors h_row h_three h_seen h_group f_edits f_total a_now a_over a_colors_35) H := hP
          have hD : va_D A (wd_X10_isColoring G h_this h_now h_history h_over h_order h_colors h_row h_three h_seen h_group f_edits f_total a_now a_over a_colors_35) := hD
          have hin := hw.1
          have hw := hw.2
          obtain ⟨a_colors_37, ea_colors_37⟩ : ∃ y : Nat → Int32, y = upd a_colors_35 x4_9.toNatClampNeg r_36 := ⟨_, rfl⟩
          have hw := hw a_colors_37 ea_colors_37
          refine va_iast hx hb hE.1 hP hD hS 3 0 rfl rfl hin dX10_isColoring_141 (fun H locs hP hD hS => ?_)
          rw [← ea_colors_37] at hP hD
          have hP : va_P G.1 vwCl (wd_X10_isColoring G h_this h_now h_history h_over h_order h_colors h_row h_three h_seen h_group f_edits f_total a_now a_over a_colors_37) H := hP
          have hD : va_D A (wd_X10_isColoring G h_this h_now h_history h_over h_order h_colors h_row h_three h_seen h_group f_edits f_total a_now a_over a_colors_37) := hD
          refine lv_aload_n hx hb dX10_isColoring_142 rfl (lv_at hl 4 rfl) ?_
          refine lv_dup hx hb dX10_isColoring_143 rfl ?_
          refine va_get (D := G.1) (ci := 10) (v := .int f_total) (C := RX10) (T := TX10) (N := 11) hx hb hts in_X10_isColoring_X10 hown hE.1 hP 0 rfl rfl 6 (by decide) (hts (.fieldLink RX10 95 "QuandleColoringsModel" "total" "I") lk_X10_isColoring_95) (fun _ h9 => h9) rfl dX10_isColoring_144 ?_
          refine lv_aload_n hx hb dX10_isColoring_147 rfl (lv_at hl 4 rfl) ?_
          refine lv_iload hx hb dX10_isColoring_148 (lv_at hl 1 rfl) ?_
          refine lv_iload hx hb dX10_isColoring_150 (lv_at hl 0 rfl) ?_
          have hC9 : ([0, 1]).map (fun i => (wd_X10_isColoring G h_this h_now h_history h_over h_order h_colors h_row h_three h_seen h_group f_edits f_total a_now a_over a_colors_37)[i]?) = (wd_X10_weightOf G h_this h_now h_history h_over h_order h_colors h_row h_three h_seen h_group f_edits f_total a_now).map some := rfl
          refine qn_callI (wd := (fun u : Unit => wd_X10_isColoring G h_this h_now h_history h_over h_order h_colors h_row h_three h_seen h_group f_edits f_total a_now a_over a_colors_37)) [0, 1] (va_runV (As := [.int x6_26, .int x7_27]) (rest := [.int f_total, .ref h_this]) ⟨hx, hb, hml, hown, hts⟩ (c_X10_weightOf G _ h_this h_now h_history h_over h_order h_colors h_row h_three h_seen h_group f_edits f_total a_now x6_26 x7_27 hw) (cwV 2 hts gX10_isColoring_X10_weightOf rfl rfl rfl (by decide +kernel) ⟨Nat.le_of_ble_eq_true rfl, Nat.le_of_ble_eq_true rfl⟩) (qn_preV hE hP hD [0, 1] hC9 (by decide +kernel) (ci := 10) rfl rfl) rfl rfl hl.1 rfl (lv_room (Nat.le_of_ble_eq_true rfl)) dX10_isColoring_152 ⟨Nat.le_of_ble_eq_true rfl, Nat.le_of_ble_eq_true rfl⟩) hP hD hS hA hC9 [some 0, some 1, none, none] (M := 4) rfl (by decide +kernel) (fun _ => rfl) (fun _ => rfl) (fun r_38 _ H locs hw hP hD hS => ?_)
          try dsimp only at hw
          have hP : va_P G.1 vwCl (wd_X10_isColoring G h_this h_now h_history h_over h_order h_colors h_row h_three h_seen h_group f_edits f_total a_now a_over a_colors_37) H := hP
          have hD : va_D A (wd_X10_isColoring G h_this h_now h_history h_over h_order h_colors h_row h_three h_seen h_group f_edits f_total a_now a_over a_colors_37) := hD
          refine lv_iadd hx hb dX10_isColoring_155 ?_
          refine lv_topi (fun f_total_39 ef_total_39 => ?_)
          have hw := hw f_total_39 ef_total_39
          refine va_put (D := G.1) (ci := 10) (v := .int f_total_39) (ty := .int) (C := RX10) (T := TX10) (N := 11) hx hb hts in_X10_isColoring_X10 tyX10 tyX10_ok nmX10 hown hE.1 hP hD hS 0 rfl rfl 6 (by decide) (hts (.fieldLink RX10 95 "QuandleColoringsModel" "total" "I") lk_X10_isColoring_95) (fun _ h9 => h9) rfl (by decide +kernel) rfl rfl (Nat.le_of_ble_eq_true rfl) dX10_isColoring_156 (fun H locs hP hD hS => ?_)
          have hP : va_P G.1 vwCl (wd_X10_isColoring G h_this h_now h_history h_over h_order h_colors h_row h_three h_seen h_group f_edits f_total_39 a_now a_over a_colors_37) H := hP
          have hD : va_D A (wd_X10_isColoring G h_this h_now h_history h_over h_order h_colors h_row h_three h_seen h_group f_edits f_total_39 a_now a_over a_colors_37) := hD
          refine lv_goto (tgt := 222) hx hb dX10_isColoring_159 (by decide) ?_
          obtain ⟨x3_40, ex3_40⟩ : ∃ y : Int32, y = x3 + 1 := ⟨_, rfl⟩
          have hw := hw x3_40 ex3_40
          refine lv_iinc (v := x3_40) (lv' := [(3, .int x3_40), (7, .int x7_27), (6, .int x6_26), (5, .int x4_9), (4, .int x4_9), (0, .ref h_this), (1, .int x1)]) hx hb dX10_isColoring_222 hl (k := 6) rfl (by rw [ex3_40]; rfl) (by decide) rfl (fun ls hl => ?_)
          refine lv_goto (tgt := 54) hx hb dX10_isColoring_225 (by decide) ?_
          exact ih x3_40 f_total_39 a_colors_37 hw _ _ _ hP hD hS (lv_sub hl [5, 6, 0] rfl)
      · have hw := hw.2 c_10
        refine lv_iload hx hb dX10_isColoring_81 (lv_at hl 0 rfl) ?_
        refine lv_ineg hx hb dX10_isColoring_83 ?_
        refine lv_goto (tgt := 89) hx hb dX10_isColoring_84 (by decide) ?_
        refine lv_topi (fun z_41 ez_41 => ?_)
        rw [← ez_41] at hw
        refine lv_istore (lv' := [(5, .int z_41), (4, .int x4_9), (0, .ref h_this), (1, .int x1), (3, .int x3)]) hx hb dX10_isColoring_89 hl (by decide) rfl (fun ls hl => ?_)
        refine lv_aload_n hx hb dX10_isColoring_91 rfl (lv_at hl 2 rfl) ?_
        refine va_get (D := G.1) (ci := 10) (v := .ref h_colors) (C := RX10) (T := TX10) (N := 11) hx hb hts in_X10_isColoring_X10 hown hE.1 hP 0 rfl rfl 5 (by decide) (hts (.fieldLink RX10 22 "QuandleColoringsModel" "colors" "[I") lk_X10_isColoring_22) (fun _ h9 => h9) rfl dX10_isColoring_92 ?_
        refine lv_iload hx hb dX10_isColoring_95 (lv_at hl 0 rfl) ?_
        refine lv_iconst (v := 1) hx hb dX10_isColoring_97 (by decide) ?_
        refine lv_isub hx hb dX10_isColoring_98 ?_
        have hin := hw.1
        have hw := hw.2
        refine va_iald hx hb hE.1 hP 3 0 rfl rfl hin dX10_isColoring_99 ?_
        refine lv_topi (fun x6_42 ex6_42 => ?_)
        have hw := hw x6_42 ex6_42
        refine lv_istore (lv' := [(6, .int x6_42), (5, .int z_41), (4, .int x4_9), (0, .ref h_this), (1, .int x1), (3, .int x3)]) hx hb dX10_isColoring_100 hl (by decide) rfl (fun ls hl => ?_)
        refine lv_aload_n hx hb dX10_isColoring_102 rfl (lv_at hl 3 rfl) ?_
        refine va_get (D := G.1) (ci := 10) (v := .ref h_colors) (C := RX10) (T := TX10) (N := 11) hx hb hts in_X10_isColoring_X10 hown hE.1 hP 0 rfl rfl 5 (by decide) (hts (.fieldLink RX10 22 "QuandleColoringsModel" "colors" "[I") lk_X10_isColoring_22) (fun _ h9 => h9) rfl dX10_isColoring_103 ?_
        refine lv_iload hx hb dX10_isColoring_106 (lv_at hl 1 rfl) ?_
        have hin := hw.1
        have hw := hw.2
        refine va_iald hx hb hE.1 hP 3 0 rfl rfl hin dX10_isColoring_108 ?_
        refine lv_topi (fun x7_43 ex7_43 => ?_)
        have hw := hw x7_43 ex7_43
        refine lv_istore (lv' := [(7, .int x7_43), (6, .int x6_42), (5, .int z_41), (4, .int x4_9), (0, .ref h_this), (1, .int x1), (3, .int x3)]) hx hb dX10_isColoring_109 hl (by decide) rfl (fun ls hl => ?_)
        refine lv_iload hx hb dX10_isColoring_111 (lv_at hl 3 rfl) ?_
        refine lv_if_le (tgt := 162) hx hb dX10_isColoring_113 (by decide) (fun c_44 => ?_) (fun c_44 => ?_)
        · have hw := hw.1 c_44
          refine lv_aload_n hx hb dX10_isColoring_162 rfl (lv_at hl 4 rfl) ?_
          refine va_get (D := G.1) (ci := 10) (v := .ref h_over) (C := RX10) (T := TX10) (N := 11) hx hb hts in_X10_isColoring_X10 hown hE.1 hP 0 rfl rfl 3 (by decide) (hts (.fieldLink RX10 16 "QuandleColoringsModel" "over" "[I") lk_X10_isColoring_16) (fun _ h9 => h9) rfl dX10_isColoring_163 ?_
          refine lv_bipush (v := 6) hx hb dX10_isColoring_166 (by decide) ?_
          refine lv_iload hx hb dX10_isColoring_168 (lv_at hl 0 rfl) ?_
          refine lv_imul hx hb dX10_isColoring_170 ?_
          refine lv_iload hx hb dX10_isColoring_171 (lv_at hl 1 rfl) ?_
          refine lv_iadd hx hb dX10_isColoring_173 ?_
          have hin := hw.1
          have hw := hw.2
          refine va_iald hx hb hE.1 hP 2 0 rfl rfl hin dX10_isColoring_174 ?_
          refine lv_topi (fun x8_45 ex8_45 => ?_)
          have hw := hw x8_45 ex8_45
          refine lv_istore (lv' := [(8, .int x8_45), (7, .int x7_43), (6, .int x6_42), (5, .int z_41), (4, .int x4_9), (0, .ref h_this), (1, .int x1), (3, .int x3)]) hx hb dX10_isColoring_175 hl (by decide) rfl (fun ls hl => ?_)
          refine lv_aload_n hx hb dX10_isColoring_177 rfl (lv_at hl 5 rfl) ?_
          refine va_get (D := G.1) (ci := 10) (v := .ref h_colors) (C := RX10) (T := TX10) (N := 11) hx hb hts in_X10_isColoring_X10 hown hE.1 hP 0 rfl rfl 5 (by decide) (hts (.fieldLink RX10 22 "QuandleColoringsModel" "colors" "[I") lk_X10_isColoring_22) (fun _ h9 => h9) rfl dX10_isColoring_178 ?_
          refine lv_iload hx hb dX10_isColoring_181 (lv_at hl 3 rfl) ?_
          refine lv_iconst (v := 1) hx hb dX10_isColoring_183 (by decide) ?_
          refine lv_isub hx hb dX10_isColoring_184 ?_
          refine lv_iload hx hb dX10_isColoring_185 (lv_at hl 0 rfl) ?_
          have hin := hw.1
          have hw := hw.2
          obtain ⟨a_colors_46, ea_colors_46⟩ : ∃ y : Nat → Int32, y = upd a_colors (z_41 - 1).toNatClampNeg x8_45 := ⟨_, rfl⟩
          have hw := hw a_colors_46 ea_colors_46
          refine va_iast hx hb hE.1 hP hD hS 3 0 rfl rfl hin dX10_isColoring_187 (fun H locs hP hD hS => ?_)
          rw [← ea_colors_46] at hP hD
          have hP : va_P G.1 vwCl (wd_X10_isColoring G h_this h_now h_history h_over h_order h_colors h_row h_three h_seen h_group f_edits f_total a_now a_over a_colors_46) H := hP
          have hD : va_D A (wd_X10_isColoring G h_this h_now h_history h_over h_order h_colors h_row h_three h_seen h_group f_edits f_total a_now a_over a_colors_46) := hD
          refine lv_aload_n hx hb dX10_isColoring_188 rfl (lv_at hl 5 rfl) ?_
          refine va_get (D := G.1) (ci := 10) (v := .ref h_colors) (C := RX10) (T := TX10) (N := 11) hx hb hts in_X10_isColoring_X10 hown hE.1 hP 0 rfl rfl 5 (by decide) (hts (.fieldLink RX10 22 "QuandleColoringsModel" "colors" "[I") lk_X10_isColoring_22) (fun _ h9 => h9) rfl dX10_isColoring_189 ?_
          refine lv_iload hx hb dX10_isColoring_192 (lv_at hl 3 rfl) ?_
          refine lv_iload hx hb dX10_isColoring_194 (lv_at hl 2 rfl) ?_
          have hin := hw.1
          have hw := hw.2
          obtain ⟨a_colors_47, ea_colors_47⟩ : ∃ y : Nat → Int32, y = upd a_colors_46 z_41.toNatClampNeg x6_42 := ⟨_, rfl⟩
          have hw := hw a_colors_47 ea_colors_47
          refine va_iast hx hb hE.1 hP hD hS 3 0 rfl rfl hin dX10_isColoring_196 (fun H locs hP hD hS => ?_)
          rw [← ea_colors_47] at hP hD
          have hP : va_P G.1 vwCl (wd_X10_isColoring G h_this h_now h_history h_over h_order h_colors h_row h_three h_seen h_group f_edits f_total a_now a_over a_colors_47) H := hP
          have hD : va_D A (wd_X10_isColoring G h_this h_now h_history h_over h_order h_colors h_row h_three h_seen h_group f_edits f_total a_now a_over a_colors_47) := hD
          refine lv_aload_n hx hb dX10_isColoring_197 rfl (lv_at hl 5 rfl) ?_
          refine lv_dup hx hb dX10_isColoring_198 rfl ?_
          refine va_get (D := G.1) (ci := 10) (v := .int f_total) (C := RX10) (T := TX10) (N := 11) hx hb hts in_X10_isColoring_X10 hown hE.1 hP 0 rfl rfl 6 (by decide) (hts (.fieldLink RX10 95 "QuandleColoringsModel" "total" "I") lk_X10_isColoring_95) (fun _ h9 => h9) rfl dX10_isColoring_199 ?_
          refine lv_aload_n hx hb dX10_isColoring_202 rfl (lv_at hl 5 rfl) ?_
          refine va_get (D := G.1) (ci := 10) (v := .ref h_now) (C := RX10) (T := TX10) (N := 11) hx hb hts in_X10_isColoring_X10 hown hE.1 hP 0 rfl rfl 0 (by decide) (hts (.fieldLink RX10 7 "QuandleColoringsModel" "now" "[I") lk_X10_isColoring_7) (fun _ h9 => h9) rfl dX10_isColoring_203 ?_
          refine lv_bipush (v := 87) hx hb dX10_isColoring_206 (by decide) ?_
          have hin := hw.1
          have hw := hw.2
          refine va_iald hx hb hE.1 hP 1 0 rfl rfl hin dX10_isColoring_208 ?_
          refine lv_aload_n hx hb dX10_isColoring_209 rfl (lv_at hl 5 rfl) ?_
          refine lv_iload hx hb dX10_isColoring_210 (lv_at hl 0 rfl) ?_
          refine lv_iload hx hb dX10_isColoring_212 (lv_at hl 2 rfl) ?_
          have hC9 : ([0, 1]).map (fun i => (wd_X10_isColoring G h_this h_now h_history h_over h_order h_colors h_row h_three h_seen h_group f_edits f_total a_now a_over a_colors_47)[i]?) = (wd_X10_weightOf G h_this h_now h_history h_over h_order h_colors h_row h_three h_seen h_group f_edits f_total a_now).map some := rfl
          refine qn_callI (wd := (fun u : Unit => wd_X10_isColoring G h_this h_now h_history h_over h_order h_colors h_row h_three h_seen h_group f_edits f_total a_now a_over a_colors_47)) [0, 1] (va_runV (As := [.int x8_45, .int x6_42]) (rest := [.int (a_now (87 : Int32).toNatClampNeg), .int f_total, .ref h_this]) ⟨hx, hb, hml, hown, hts⟩ (c_X10_weightOf G _ h_this h_now h_history h_over h_order h_colors h_row h_three h_seen h_group f_edits f_total a_now x8_45 x6_42 hw) (cwV 2 hts gX10_isColoring_X10_weightOf rfl rfl rfl (by decide +kernel) ⟨Nat.le_of_ble_eq_true rfl, Nat.le_of_ble_eq_true rfl⟩) (qn_preV hE hP hD [0, 1] hC9 (by decide +kernel) (ci := 10) rfl rfl) rfl rfl hl.1 rfl (lv_room (Nat.le_of_ble_eq_true rfl)) dX10_isColoring_214 ⟨Nat.le_of_ble_eq_true rfl, Nat.le_of_ble_eq_true rfl⟩) hP hD hS hA hC9 [some 0, some 1, none, none] (M := 4) rfl (by decide +kernel) (fun _ => rfl) (fun _ => rfl) (fun r_48 _ H locs hw hP hD hS => ?_)
          try dsimp only at hw
          have hP : va_P G.1 vwCl (wd_X10_isColoring G h_this h_now h_history h_over h_order h_colors h_row h_three h_seen h_group f_edits f_total a_now a_over a_colors_47) H := hP
          have hD : va_D A (wd_X10_isColoring G h_this h_now h_history h_over h_order h_colors h_row h_three h_seen h_group f_edits f_total a_now a_over a_colors_47) := hD
          refine lv_isub hx hb dX10_isColoring_217 ?_
          refine lv_iadd hx hb dX10_isColoring_218 ?_
          refine lv_topi (fun f_total_49 ef_total_49 => ?_)
          have hw := hw f_total_49 ef_total_49
          refine va_put (D := G.1) (ci := 10) (v := .int f_total_49) (ty := .int) (C := RX10) (T := TX10) (N := 11) hx hb hts in_X10_isColoring_X10 tyX10 tyX10_ok nmX10 hown hE.1 hP hD hS 0 rfl rfl 6 (by decide) (hts (.fieldLink RX10 95 "QuandleColoringsModel" "total" "I") lk_X10_isColoring_95) (fun _ h9 => h9) rfl (by decide +kernel) rfl rfl (Nat.le_of_ble_eq_true rfl) dX10_isColoring_219 (fun H locs hP hD hS => ?_)
          have hP : va_P G.1 vwCl (wd_X10_isColoring G h_this h_now h_history h_over h_order h_colors h_row h_three h_seen h_group f_edits f_total_49 a_now a_over a_colors_47) H := hP
          have hD : va_D A (wd_X10_isColoring G h_this h_now h_history h_over h_order h_colors h_row h_three h_seen h_group f_edits f_total_49 a_now a_over a_colors_47) := hD
          obtain ⟨x3_50, ex3_50⟩ : ∃ y : Int32, y = x3 + 1 := ⟨_, rfl⟩
          have hw := hw x3_50 ex3_50
          refine lv_iinc (v := x3_50) (lv' := [(3, .int x3_50), (8, .int x8_45), (7, .int x7_43), (6, .int x6_42), (5, .int z_41), (4, .int x4_9), (0, .ref h_this), (1, .int x1)]) hx hb dX10_isColoring_222 hl (k := 7) rfl (by rw [ex3_50]; rfl) (by decide) rfl (fun ls hl => ?_)
          refine lv_goto (tgt := 54) hx hb dX10_isColoring_225 (by decide) ?_
          exact ih x3_50 f_total_49 a_colors_47 hw _ _ _ hP hD hS (lv_sub hl [6, 7, 0] rfl)
        · have hw := hw.2 c_44
          refine lv_aload_n hx hb dX10_isColoring_116 rfl (lv_at hl 4 rfl) ?_
          refine va_get (D := G.1) (ci := 10) (v := .ref h_colors) (C := RX10) (T := TX10) (N := 11) hx hb hts in_X10_isColoring_X10 hown hE.1 hP 0 rfl rfl 5 (by decide) (hts (.fieldLink RX10 22 "QuandleColoringsModel" "colors" "[I") lk_X10_isColoring_22) (fun _ h9 => h9) rfl dX10_isColoring_117 ?_
          refine lv_iload hx hb dX10_isColoring_120 (lv_at hl 2 rfl) ?_
          refine lv_iconst (v := 1) hx hb dX10_isColoring_122 (by decide) ?_
          refine lv_isub hx hb dX10_isColoring_123 ?_
          refine lv_iload hx hb dX10_isColoring_124 (lv_at hl 0 rfl) ?_
          have hin := hw.1
          have hw := hw.2
          obtain ⟨a_colors_51, ea_colors_51⟩ : ∃ y : Nat → Int32, y = upd a_colors (z_41 - 1).toNatClampNeg x7_43 := ⟨_, rfl⟩
          have hw := hw a_colors_51 ea_colors_51
          refine va_iast hx hb hE.1 hP hD hS 3 0 rfl rfl hin dX10_isColoring_126 (fun H locs hP hD hS => ?_)
          rw [← ea_colors_51] at hP hD
          have hP : va_P G.1 vwCl (wd_X10_isColoring G h_this h_now h_history h_over h_order h_colors h_row h_three h_seen h_group f_edits f_total a_now a_over a_colors_51) H := hP
          have hD : va_D A (wd_X10_isColoring G h_this h_now h_history h_over h_order h_colors h_row h_three h_seen h_group f_edits f_total a_now a_over a_colors_51) := hD
          refine lv_aload_n hx hb dX10_isColoring_127 rfl (lv_at hl 4 rfl) ?_
          refine va_get (D := G.1) (ci := 10) (v := .ref h_colors) (C := RX10) (T := TX10) (N := 11) hx hb hts in_X10_isColoring_X10 hown hE.1 hP 0 rfl rfl 5 (by decide) (hts (.fieldLink RX10 22 "QuandleColoringsModel" "colors" "[I") lk_X10_isColoring_22) (fun _ h9 => h9) rfl dX10_isColoring_128 ?_
          refine lv_iload hx hb dX10_isColoring_131 (lv_at hl 2 rfl) ?_
          refine lv_aload_n hx hb dX10_isColoring_133 rfl (lv_at hl 4 rfl) ?_
          refine lv_iload hx hb dX10_isColoring_134 (lv_at hl 1 rfl) ?_
          refine lv_iload hx hb dX10_isColoring_136 (lv_at hl 0 rfl) ?_
          have hC9 : ([0, 1]).map (fun i => (wd_X10_isColoring G h_this h_now h_history h_over h_order h_colors h_row h_three h_seen h_group f_edits f_total a_now a_over a_colors_51)[i]?) = (wd_X10_of G h_this h_now h_history h_over h_order h_colors h_row h_three h_seen h_group f_edits f_total a_now).map some := rfl
          refine qn_callI (wd := (fun u : Unit => wd_X10_isColoring G h_this h_now h_history h_over h_order h_colors h_row h_three h_seen h_group f_edits f_total a_now a_over a_colors_51)) [0, 1] (va_runV (As := [.int x6_42, .int x7_43]) (rest := [.int z_41, .ref h_colors]) ⟨hx, hb, hml, hown, hts⟩ (c_X10_of G _ h_this h_now h_history h_over h_order h_colors h_row h_three h_seen h_group f_edits f_total a_now x6_42 x7_43 hw) (cwV 2 hts gX10_isColoring_X10_of rfl rfl rfl (by decide +kernel) ⟨Nat.le_of_ble_eq_true rfl, Nat.le_of_ble_eq_true rfl⟩) (qn_preV hE hP hD [0, 1] hC9 (by decide +kernel) (ci := 10) rfl rfl) rfl rfl hl.1 rfl (lv_room (Nat.le_of_ble_eq_true rfl)) dX10_isColoring_138 ⟨Nat.le_of_ble_eq_true rfl, Nat.le_of_ble_eq_true rfl⟩) hP hD hS hA hC9 [some 0, some 1, none, none] (M := 4) rfl (by decide +kernel) (fun _ => rfl) (fun _ => rfl) (fun r_52 _ H locs hw hP hD hS => ?_)
          try dsimp only at hw
          have hP : va_P G.1 vwCl (wd_X10_isColoring G h_this h_now h_history h_over h_order h_colors h_row h_three h_seen h_group f_edits f_total a_now a_over a_colors_51) H := hP
          have hD : va_D A (wd_X10_isColoring G h_this h_now h_history h_over h_order h_colors h_row h_three h_seen h_group f_edits f_total a_now a_over a_colors_51) := hD
          have hin := hw.1
          have hw := hw.2
          obtain ⟨a_colors_53, ea_colors_53⟩ : ∃ y : Nat → Int32, y = upd a_colors_51 z_41.toNatClampNeg r_52 := ⟨_, rfl⟩
          have hw := hw a_colors_53 ea_colors_53
          refine va_iast hx hb hE.1 hP hD hS 3 0 rfl rfl hin dX10_isColoring_141 (fun H locs hP hD hS => ?_)
          rw [← ea_colors_53] at hP hD
          have hP : va_P G.1 vwCl (wd_X10_isColoring G h_this h_now h_history h_over h_order h_colors h_row h_three h_seen h_group f_edits f_total a_now a_over a_colors_53) H := hP
          have hD : va_D A (wd_X10_isColoring G h_this h_now h_history h_over h_order h_colors h_row h_three h_seen h_group f_edits f_total a_now a_over a_colors_53) := hD
          refine lv_aload_n hx hb dX10_isColoring_142 rfl (lv_at hl 4 rfl) ?_
          refine lv_dup hx hb dX10_isColoring_143 rfl ?_
          refine va_get (D := G.1) (ci := 10) (v := .int f_total) (C := RX10) (T := TX10) (N := 11) hx hb hts in_X10_isColoring_X10 hown hE.1 hP 0 rfl rfl 6 (by decide) (hts (.fieldLink RX10 95 "QuandleColoringsModel" "total" "I") lk_X10_isColoring_95) (fun _ h9 => h9) rfl dX10_isColoring_144 ?_
          refine lv_aload_n hx hb dX10_isColoring_147 rfl (lv_at hl 4 rfl) ?_
          refine lv_iload hx hb dX10_isColoring_148 (lv_at hl 1 rfl) ?_
          refine lv_iload hx hb dX10_isColoring_150 (lv_at hl 0 rfl) ?_
          have hC9 : ([0, 1]).map (fun i => (wd_X10_isColoring G h_this h_now h_history h_over h_order h_colors h_row h_three h_seen h_group f_edits f_total a_now a_over a_colors_53)[i]?) = (wd_X10_weightOf G h_this h_now h_history h_over h_order h_colors h_row h_three h_seen h_group f_edits f_total a_now).map some := rfl
          refine qn_callI (wd := (fun u : Unit => wd_X10_isColoring G h_this h_now h_history h_over h_order h_colors h_row h_three h_seen h_group f_edits f_total a_now a_over a_colors_53)) [0, 1] (va_runV (As := [.int x6_42, .int x7_43]) (rest := [.int f_total, .ref h_this]) ⟨hx, hb, hml, hown, hts⟩ (c_X10_weightOf G _ h_this h_now h_history h_over h_order h_colors h_row h_three h_seen h_group f_edits f_total a_now x6_42 x7_43 hw) (cwV 2 hts gX10_isColoring_X10_weightOf rfl rfl rfl (by decide +kernel) ⟨Nat.le_of_ble_eq_true rfl, Nat.le_of_ble_eq_true rfl⟩) (qn_preV hE hP hD [0, 1] hC9 (by decide +kernel) (ci := 10) rfl rfl) rfl rfl hl.1 rfl (lv_room (Nat.le_of_ble_eq_true rfl)) dX10_isColoring_152 ⟨Nat.le_of_ble_eq_true rfl, Nat.le_of_ble_eq_true rfl⟩) hP hD hS hA hC9 [some 0, some 1, none, none] (M := 4) rfl (by decide +kernel) (fun _ => rfl) (fun _ => rfl) (fun r_54 _ H locs hw hP hD hS => ?_)
          try dsimp only at hw
          have hP : va_P G.1 vwCl (wd_X10_isColoring G h_this h_now h_history h_over h_order h_colors h_row h_three h_seen h_group f_edits f_total a_now a_over a_colors_53) H := hP
          have hD : va_D A (wd_X10_isColoring G h_this h_now h_history h_over h_order h_colors h_row h_three h_seen h_group f_edits f_total a_now a_over a_colors_53) := hD
          refine lv_iadd hx hb dX10_isColoring_155 ?_
          refine lv_topi (fun f_total_55 ef_total_55 => ?_)
          have hw := hw f_total_55 ef_total_55
          refine va_put (D := G.1) (ci := 10) (v := .int f_total_55) (ty := .int) (C := RX10) (T := TX10) (N := 11) hx hb hts in_X10_isColoring_X10 tyX10 tyX10_ok nmX10 hown hE.1 hP hD hS 0 rfl rfl 6 (by decide) (hts (.fieldLink RX10 95 "QuandleColoringsModel" "total" "I") lk_X10_isColoring_95) (fun _ h9 => h9) rfl (by decide +kernel) rfl rfl (Nat.le_of_ble_eq_true rfl) dX10_isColoring_156 (fun H locs hP hD hS => ?_)
          have hP : va_P G.1 vwCl (wd_X10_isColoring G h_this h_now h_history h_over h_order h_colors h_row h_three h_seen h_group f_edits f_total_55 a_now a_over a_colors_53) H := hP
          have hD : va_D A (wd_X10_isColoring G h_this h_now h_history h_over h_order h_colors h_row h_three h_seen h_group f_edits f_total_55 a_now a_over a_colors_53) := hD
          refine lv_goto (tgt := 222) hx hb dX10_isColoring_159 (by decide) ?_
          obtain ⟨x3_56, ex3_56⟩ : ∃ y : Int32, y = x3 + 1 := ⟨_, rfl⟩
          have hw := hw x3_56 ex3_56
          refine lv_iinc (v := x3_56) (lv' := [(3, .int x3_56), (7, .int x7_43), (6, .int x6_42), (5, .int z_41), (4, .int x4_9), (0, .ref h_this), (1, .int x1)]) hx hb dX10_isColoring_222 hl (k := 6) rfl (by rw [ex3_56]; rfl) (by decide) rfl (fun ls hl => ?_)
          refine lv_goto (tgt := 54) hx hb dX10_isColoring_225 (by decide) ?_
          exact ih x3_56 f_total_55 a_colors_53 hw _ _ _ hP hD hS (lv_sub hl [5, 6, 0] rfl)
set_option maxHeartbeats 4000000 in
set_option maxRecDepth 100000 in
theorem l_X10_isColoring_249 {p : Program} {l : Launch} {e : Env} {s : State} {m : MethodId} {args : Array Value} {below : List Frame} {meth : Method} {c : Code} {G : qn_G} {A : Nat → Prop} {h_this h_now h_history h_over h_order h_colors h_row h_three h_seen h_group : Nat} {f_edits : Int32} {f_total : Int32} {a_now : Nat → Int32} {a_over : Nat → Int32} {a_colors : Nat → Int32} {x1 : Int32} {post : Int32 → Int32 → (Nat → Int32) → Prop} {KL249 : Int32 → Prop} (C0 : qn_C p m c cX10_isColoring 9 s args wsX10_isColoring RX10 meth (some .boolean)) (hE : qn_EV G s) (hA : ∀ q, s.heap.size ≤ q → A q) (hKc : ∀ (x3 : Int32), KL249 x3 → ∀ (H : Heap) (locs : List Loc) (ls : Array Slot), va_P G.1 vwCl (wd_X10_isColoring G h_this h_now h_history h_over h_order h_colors h_row h_three h_seen h_group f_edits f_total a_now a_over a_colors) H → va_D A (wd_X10_isColoring G h_this h_now h_history h_over h_order h_colors h_row h_three h_seen h_group f_edits f_total a_now a_over a_colors) → va_S A s.heap H locs → lv_has ls 9 [(1, .int x1), (3, .int x3)] → W p l e (headSpec wsX10_isColoring rm_X10_isColoring).room s m args below meth c H locs 0 0 (MQ below (qn_QI G (fun (r : Int32) (u : Int32 × (Nat → Int32)) => post r u.1 u.2) (fun u : Int32 × (Nat → Int32) => wd_X10_isColoring G h_this h_now h_history h_over h_order h_colors h_row h_three h_seen h_group f_edits (u.1) a_now a_over (u.2)) A) args s 0 0 A) (F0 m 285 ls [])) :
    ∀ (fu : Nat) (x3 : Int32) (x4 : Int32), wp_X10_isColoring_L249 KL249 a_now a_colors fu x3 x4 → ∀ (H : Heap) (locs : List Loc) (ls : Array Slot), va_P G.1 vwCl (wd_X10_isColoring G h_this h_now h_history h_over h_order h_colors h_row h_three h_seen h_group f_edits f_total a_now a_over a_colors) H → va_D A (wd_X10_isColoring G h_this h_now h_history h_over h_order h_colors h_row h_three h_seen h_group f_edits f_total a_now a_over a_colors) → va_S A s.heap H locs → lv_has ls 9 [(0, .ref h_this), (1, .int x1), (3, .int x3), (4, .int x4)] → W p l e (headSpec wsX10_isColoring rm_X10_isColoring).room s m args below meth c H locs 0 0 (MQ below (qn_QI G (fun (r : Int32) (u : Int32 × (Nat → Int32)) => post r u.1 u.2) (fun u : Int32 × (Nat → Int32) => wd_X10_isColoring G h_this h_now h_history h_over h_order h_colors h_row h_three h_seen h_group f_edits (u.1) a_now a_over (u.2)) A) args s 0 0 A) (F0 m 249 ls []) := by
  obtain ⟨hx, hb, hml, hown, hts, hr, hlocks⟩ := id C0
  intro fu
  induction fu with
  | zero => intro x3 x4 hw; exact hw.elim
  | succ fu ih =>
    intro x3 x4 hw H locs ls hP hD hS hl
    refine lv_iload hx hb dX10_isColoring_249 (lv_at hl 3 rfl) ?_
    refine lv_aload_n hx hb dX10_isColoring_251 rfl (lv_at hl 0 rfl) ?_
    refine va_get (D := G.1) (ci := 10) (v := .ref h_now) (C := RX10) (T := TX10) (N := 11) hx hb hts in_X10_isColoring_X10 hown hE.1 hP 0 rfl rfl 0 (by decide) (hts (.fieldLink RX10 7 "QuandleColoringsModel" "now" "[I") lk_X10_isColoring_7) (fun _ h9 => h9) rfl dX10_isColoring_252 ?_
    refine lv_bipush (v := 85) hx hb dX10_isColoring_255 (by decide) ?_
    have hin := hw.1
    have hw := hw.2
    refine va_iald hx hb hE.1 hP 1 0 rfl rfl hin dX10_isColoring_257 ?_
    refine lv_icmp_ge (tgt := 285) hx hb dX10_isColoring_258 (by decide) (fun c_60 => ?_) (fun c_60 => ?_)
    · have hw := hw.1 c_60
      exact hKc x3 hw _ _ _ hP hD hS (lv_sub hl [1, 2] rfl)
    · have hw := hw.2 c_60
      refine lv_iload_n hx hb dX10_isColoring_261 rfl (lv_at hl 2 rfl) ?_
      refine lv_aload_n hx hb dX10_isColoring_262 rfl (lv_at hl 0 rfl) ?_
      refine va_get (D := G.1) (ci := 10) (v := .ref h_now) (C := RX10) (T := TX10) (N := 11) hx hb hts in_X10_isColoring_X10 hown hE.1 hP 0 rfl rfl 0 (by decide) (hts (.fieldLink RX10 7 "QuandleColoringsModel" "now" "[I") lk_X10_isColoring_7) (fun _ h9 => h9) rfl dX10_isColoring_263 ?_
      refine lv_bipush (v := 84) hx hb dX10_isColoring_266 (by decide) ?_
      have hin := hw.1
      have hw := hw.2
      refine va_iald hx hb hE.1 hP 1 0 rfl rfl hin dX10_isColoring_268 ?_
      refine lv_imul hx hb dX10_isColoring_269 ?_
      refine lv_aload_n hx hb dX10_isColoring_270 rfl (lv_at hl 0 rfl) ?_
      refine va_get (D := G.1) (ci := 10) (v := .ref h_colors) (C := RX10) (T := TX10) (N := 11) hx hb hts in_X10_isColoring_X10 hown hE.1 hP 0 rfl rfl 5 (by decide) (hts (.fieldLink RX10 22 "QuandleColoringsModel" "colors" "[I") lk_X10_isColoring_22) (fun _ h9 => h9) rfl dX10_isColoring_271 ?_
      refine lv_iload hx hb dX10_isColoring_274 (lv_at hl 3 rfl) ?_
      have hin := hw.1
      have hw := hw.2
      refine va_iald hx hb hE.1 hP 3 0 rfl rfl hin dX10_isColoring_276 ?_
      refine lv_iadd hx hb dX10_isColoring_277 ?_
      refine lv_topi (fun x3_61 ex3_61 => ?_)
      have hw := hw x3_61 ex3_61
      refine lv_istore_n (lv' := [(3, .int x3_61), (0, .ref h_this), (1, .int x1), (4, .int x4)]) hx hb dX10_isColoring_278 rfl hl (by decide) rfl (fun ls hl => ?_)
      obtain ⟨x4_62, ex4_62⟩ : ∃ y : Int32, y = x4 + 1 := ⟨_, rfl⟩
      have hw := hw x4_62 ex4_62
      refine lv_iinc (v := x4_62) (lv' := [(4, .int x4_62), (3, .int x3_61), (0, .ref h_this), (1, .int x1)]) hx hb dX10_isColoring_279 hl (k := 3) rfl (by rw [ex4_62]; rfl) (by decide) rfl (fun ls hl => ?_)
      refine lv_goto (tgt := 249) hx hb dX10_isColoring_282 (by decide) ?_
      exact ih x3_61 x4_62 hw _ _ _ hP hD hS (lv_sub hl [2, 3, 1, 0] rfl)
set_option maxHeartbeats 4000000 in
set_option maxRecDepth 100000 in
theorem c_X10_isColoring {l : Launch} (G : qn_G) (sz : Nat) (h_this h_now h_history h_over h_order h_colors h_row h_three h_seen h_group : Nat) (f_edits : Int32) (f_total : Int32) (a_now : Nat → Int32) (a_over : Nat → Int32) (a_colors : Nat → Int32) (x1 : Int32) {post : Int32 → Int32 → (Nat → Int32) → Prop} (hw : wp_X10_isColoring post a_now a_over a_colors x1) : Met l yX10_isColoring wsX10_isColoring rm_X10_isColoring (qn_PC G [.ref h_this, .int x1] sz (wd_X10_isColoring G h_this h_now h_history h_over h_order h_colors h_row h_three h_seen h_group f_edits f_total a_now a_over a_colors)) (qn_QI G (fun (r : Int32) (u : Int32 × (Nat → Int32)) => post r u.1 u.2) (fun u : Int32 × (Nat → Int32) => wd_X10_isColoring G h_this h_now h_history h_over h_order h_colors h_row h_three h_seen h_group f_edits (u.1) a_now a_over (u.2)) (va_A (wd_X10_isColoring G h_this h_now h_history h_over h_order h_colors h_row h_three h_seen h_group f_edits f_total a_now a_over a_colors) sz)) 0 0 (va_A (wd_X10_isColoring G h_this h_now h_history h_over h_order h_colors h_row h_three h_seen h_group f_edits f_total a_now a_over a_colors) sz) := by
  refine Met.ofW (cc := cX10_isColoring) (maxL := 9) (ret := (some .boolean)) (by decide) rfl ?_
  intro p e s m args below meth c s₁ B hml hv
  obtain ⟨rfl, hsz, hP, hE, hD0⟩ := hv
  have C0 : qn_C p m c cX10_isColoring 9 s _ wsX10_isColoring RX10 meth (some .boolean) := qn_C0 B hml
  obtain ⟨hx, hb, -, hown, hts, hr, hlocks⟩ := id C0
  subst hsz
  have hD := hD0.self (sz := s.heap.size)
  generalize hAe : va_A (wd_X10_isColoring G h_this h_now h_history h_over h_order h_colors h_row h_three h_seen h_group f_edits f_total a_now a_over a_colors) s.heap.size = A at hD ⊢
  have hA : ∀ q : Nat, s.heap.size ≤ q → A q := fun q h => by rw [← hAe]; exact Or.inr h
  clear hAe
  have hS : va_S A s.heap s.heap [] := va_S.rf
  have hl := lv_entry ([.ref h_this, .int x1]) (n := 9) (Nat.le_of_ble_eq_true rfl)
  rw [lg_entry_eq]
  generalize (lg_sl ([.ref h_this, .int x1]) ++ List.replicate (9 - (lg_sl ([.ref h_this, .int x1])).length) Slot.unset).toArray = ls at hl ⊢
  have hl : lv_has ls 9 [(0, .ref h_this), (1, .int x1)] := hl
  have hP : va_P G.1 vwCl (wd_X10_isColoring G h_this h_now h_history h_over h_order h_colors h_row h_three h_seen h_group f_edits f_total a_now a_over a_colors) s.heap := hP
  refine lv_iload_n hx hb dX10_isColoring_0 rfl (lv_at hl 1 rfl) ?_
  refine lv_istore_n (lv' := [(2, .int x1), (0, .ref h_this), (1, .int x1)]) hx hb dX10_isColoring_1 rfl hl (by decide) rfl (fun ls hl => ?_)
  refine lv_aload_n hx hb dX10_isColoring_2 rfl (lv_at hl 1 rfl) ?_
  refine va_get (D := G.1) (ci := 10) (v := .ref h_now) (C := RX10) (T := TX10) (N := 11) hx hb hts in_X10_isColoring_X10 hown hE.1 hP 0 rfl rfl 0 (by decide) (hts (.fieldLink RX10 7 "QuandleColoringsModel" "now" "[I") lk_X10_isColoring_7) (fun _ h9 => h9) rfl dX10_isColoring_3 ?_
  refine lv_bipush (v := 85) hx hb dX10_isColoring_6 (by decide) ?_
  have hin := hw.1
  have hw := hw.2
  refine va_iald hx hb hE.1 hP 1 0 rfl rfl hin dX10_isColoring_8 ?_
  refine lv_iconst (v := 1) hx hb dX10_isColoring_9 (by decide) ?_
  refine lv_isub hx hb dX10_isColoring_10 ?_
  refine lv_topi (fun x3_1 ex3_1 => ?_)
  have hw := hw x3_1 ex3_1
  refine lv_istore_n (lv' := [(3, .int x3_1), (2, .int x1), (0, .ref h_this), (1, .int x1)]) hx hb dX10_isColoring_11 rfl hl (by decide) rfl (fun ls hl => ?_)
  obtain ⟨fu_67, hw⟩ := hw
  refine l_X10_isColoring_12 (post := post) C0 hE hA (fun a_colors_7 hw H locs ls hP hD hS hl => ?_) fu_67 x1 x3_1 a_colors hw _ _ _ hP hD hS (lv_sub hl [2, 3, 1, 0] rfl)
  refine lv_aload_n hx hb dX10_isColoring_47 rfl (lv_at hl 0 rfl) ?_
  refine lv_iconst (v := 0) hx hb dX10_isColoring_48 (by decide) ?_
  refine va_put (D := G.1) (ci := 10) (v := .int 0) (ty := .int) (C := RX10) (T := TX10) (N := 11) hx hb hts in_X10_isColoring_X10 tyX10 tyX10_ok nmX10 hown hE.1 hP hD hS 0 rfl rfl 6 (by decide) (hts (.fieldLink RX10 95 "QuandleColoringsModel" "total" "I") lk_X10_isColoring_95) (fun _ h9 => h9) rfl (by decide +kernel) rfl rfl (Nat.le_of_ble_eq_true rfl) dX10_isColoring_49 (fun H locs hP hD hS => ?_)
  have hP : va_P G.1 vwCl (wd_X10_isColoring G h_this h_now h_history h_over h_order h_colors h_row h_three h_seen h_group f_edits 0 a_now a_over a_colors_7) H := hP
  have hD : va_D A (wd_X10_isColoring G h_this h_now h_history h_over h_order h_colors h_row h_three h_seen h_group f_edits 0 a_now a_over a_colors_7) := hD
  refine lv_iconst (v := 0) hx hb dX10_isColoring_52 (by decide) ?_
  refine lv_istore_n (lv' := [(3, .int 0), (0, .ref h_this), (1, .int x1)]) hx hb dX10_isColoring_53 rfl hl (by decide) rfl (fun ls hl => ?_)
  obtain ⟨fu_66, hw⟩ := hw
  refine l_X10_isColoring_54 (post := post) C0 hE hA (fun f_total_57 a_colors_58 hw H locs ls hP hD hS hl => ?_) fu_66 0 0 a_colors_7 hw _ _ _ hP hD hS (lv_sub hl [1, 2, 0] rfl)
  refine lv_aload_n hx hb dX10_isColoring_228 rfl (lv_at hl 0 rfl) ?_
  refine lv_dup hx hb dX10_isColoring_229 rfl ?_
  refine va_get (D := G.1) (ci := 10) (v := .int f_total_57) (C := RX10) (T := TX10) (N := 11) hx hb hts in_X10_isColoring_X10 hown hE.1 hP 0 rfl rfl 6 (by decide) (hts (.fieldLink RX10 95 "QuandleColoringsModel" "total" "I") lk_X10_isColoring_95) (fun _ h9 => h9) rfl dX10_isColoring_230 ?_
  refine lv_aload_n hx hb dX10_isColoring_233 rfl (lv_at hl 0 rfl) ?_
  refine va_get (D := G.1) (ci := 10) (v := .ref h_now) (C := RX10) (T := TX10) (N := 11) hx hb hts in_X10_isColoring_X10 hown hE.1 hP 0 rfl rfl 0 (by decide) (hts (.fieldLink RX10 7 "QuandleColoringsModel" "now" "[I") lk_X10_isColoring_7) (fun _ h9 => h9) rfl dX10_isColoring_234 ?_
  refine lv_bipush (v := 87) hx hb dX10_isColoring_237 (by decide) ?_
  have hin := hw.1
  have hw := hw.2
  refine va_iald hx hb hE.1 hP 1 0 rfl rfl hin dX10_isColoring_239 ?_
  have hne := hw.1
  have hw := hw.2
  refine lv_irem hx hb dX10_isColoring_240 hne ?_
  refine lv_topi (fun z_59 ez_59 => ?_)
  have hw := hw z_59 ez_59
  refine va_put (D := G.1) (ci := 10) (v := .int z_59) (ty := .int) (C := RX10) (T := TX10) (N := 11) hx hb hts in_X10_isColoring_X10 tyX10 tyX10_ok nmX10 hown hE.1 hP hD hS 0 rfl rfl 6 (by decide) (hts (.fieldLink RX10 95 "QuandleColoringsModel" "total" "I") lk_X10_isColoring_95) (fun _ h9 => h9) rfl (by decide +kernel) rfl rfl (Nat.le_of_ble_eq_true rfl) dX10_isColoring_241 (fun H locs hP hD hS => ?_)
  have hP : va_P G.1 vwCl (wd_X10_isColoring G h_this h_now h_history h_over h_order h_colors h_row h_three h_seen h_group f_edits z_59 a_now a_over a_colors_58) H := hP
  have hD : va_D A (wd_X10_isColoring G h_this h_now h_history h_over h_order h_colors h_row h_three h_seen h_group f_edits z_59 a_now a_over a_colors_58) := hD
  refine lv_iconst (v := 0) hx hb dX10_isColoring_244 (by decide) ?_
  refine lv_istore_n (lv' := [(3, .int 0), (0, .ref h_this), (1, .int x1)]) hx hb dX10_isColoring_245 rfl hl (by decide) rfl (fun ls hl => ?_)
  refine lv_iconst (v := 0) hx hb dX10_isColoring_246 (by decide) ?_
  refine lv_istore (lv' := [(4, .int 0), (3, .int 0), (0, .ref h_this), (1, .int x1)]) hx hb dX10_isColoring_247 hl (by decide) rfl (fun ls hl => ?_)
  obtain ⟨fu_65, hw⟩ := hw
  refine l_X10_isColoring_249 (post := post) C0 hE hA (fun x3_63 hw H locs ls hP hD hS hl => ?_) fu_65 0 0 hw _ _ _ hP hD hS (lv_sub hl [2, 3, 1, 0] rfl)
  refine lv_iload_n hx hb dX10_isColoring_285 rfl (lv_at hl 1 rfl) ?_
  refine lv_iload_n hx hb dX10_isColoring_286 rfl (lv_at hl 0 rfl) ?_
  refine lv_icmp_ne (tgt := 294) hx hb dX10_isColoring_287 (by decide) (fun c_64 => ?_) (fun c_64 => ?_)
  · have hw := hw.1 c_64
    refine lv_iconst (v := 0) hx hb dX10_isColoring_294 (by decide) ?_
    exact W.zret (v := 0) hx hb hr (by decide) (fun t ht hW => ⟨⟨0, (z_59, a_colors_58), rfl, hw, by rw [ht]; exact hP, hD⟩, hS.F ht⟩) hS.2.2 dX10_isColoring_295
  · have hw := hw.2 c_64
    refine lv_iconst (v := 1) hx hb dX10_isColoring_290 (by decide) ?_
    refine lv_goto (tgt := 295) hx hb dX10_isColoring_291 (by decide) ?_
    exact W.zret (v := 1) hx hb hr (by decide) (fun t ht hW => ⟨⟨1, (z_59, a_colors_58), rfl, hw, by rw [ht]; exact hP, hD⟩, hS.F ht⟩) hS.2.2 dX10_isColoring_295
-- QuandleColoringsModel.coloringCount()I
abbrev rm_X10_coloringCount : Room := { frames := 2, cells := 0, slots := 0, locals := 50 }
abbrev wd_X10_coloringCount (G : qn_G) (h_this h_now h_history h_over h_order h_colors h_row h_three h_seen h_group : Nat) (f_edits : Int32) (f_total : Int32) (a_now : Nat → Int32) (a_over : Nat → Int32) (a_colors : Nat → Int32) : va_W := [(h_this, .inr (10, [.ref h_now, .ref h_history, .int f_edits, .ref h_over, .ref h_order, .ref h_colors, .int f_total, .ref h_row, .ref h_three, .ref h_seen, .ref h_group])), (h_now, .inl (G.2.1, 88, .inl a_now)), (h_over, .inl (G.2.1, 36, .inl a_over)), (h_colors, .inl (G.2.1, 4, .inl a_colors))]
def wp_X10_coloringCount_L21 (KL21 : Int32 → Int32 → (Nat → Int32) → Prop) (x2 : Int32) (a_now : Nat → Int32) (a_over : Nat → Int32) : Nat → Int32 → Int32 → Int32 → (Nat → Int32) → Prop
  | 0 => fun _ _ _ _ => False
  | fu + 1 => fun x1 x3 f_total a_colors => ((x2 ≤ x3 → (KL21 x1 f_total a_colors)) ∧ (¬ x2 ≤ x3 → (wp_X10_isColoring (fun (r_8 : Int32) (f_total_6 : Int32) (a_colors_7 : Nat → Int32) => ((r_8 = 0 → (∀ x1_11 : Int32, x1_11 = x1 + 0 → (∀ x3_12 : Int32, x3_12 = x3 + 1 → ((wp_X10_coloringCount_L21 KL21 x2 a_now a_over fu) x1_11 x3_12 f_total_6 a_colors_7)))) ∧ (¬ r_8 = 0 → (∀ x1_13 : Int32, x1_13 = x1 + 1 → (∀ x3_14 : Int32, x3_14 = x3 + 1 → ((wp_X10_coloringCount_L21 KL21 x2 a_now a_over fu) x1_13 x3_14 f_total_6 a_colors_7)))))) a_now a_over a_colors x3)))
def wp_X10_coloringCount (post : Int32 → Int32 → (Nat → Int32) → (Nat → Int32) → Prop) (f_total : Int32) (a_now : Nat → Int32) (a_over : Nat → Int32) (a_colors : Nat → Int32) : Prop := (wp_X10_column (fun (r_2 : Int32) (a_over_1 : Nat → Int32) => ((r_2 = (-4) → (wp_X10_codes (fun (r_4 : Int32) => (∃ fu_18 : Nat, wp_X10_coloringCount_L21 (fun (x1_15 : Int32) (f_total_16 : Int32) (a_colors_17 : Nat → Int32) => (post x1_15 f_total_16 a_over_1 a_colors_17)) r_4 a_now a_over_1 fu_18 0 0 f_total a_colors)) a_now)) ∧ (¬ r_2 = (-4) → (post (-2) f_total a_over_1 a_colors)))) a_now a_over)
set_option maxHeartbeats 4000000 in
set_option maxRecDepth 100000 in
theorem l_X10_coloringCount_21 {p : Program} {l : Launch} {e : Env} {s : State} {m : MethodId} {args : Array Value} {below : List Frame} {meth : Method} {c : Code} {G : qn_G} {A : Nat → Prop} {h_this h_now h_history h_over h_order h_colors h_row h_three h_seen h_group : Nat} {f_edits : Int32} {a_now : Nat → Int32} {a_over : Nat → Int32} {x2 : Int32} {post : Int32 → Int32 → (Nat → Int32) → (Nat → Int32) → Prop} {KL21 : Int32 → Int32 → (Nat → Int32) → Prop} (C0 : qn_C p m c cX10_coloringCount 4 s args wsX10_coloringCount RX10 meth (some .int)) (hE : qn_EV G s) (hA : ∀ q, s.heap.size ≤ q → A q) (hKc : ∀ (x1 : Int32) (f_total : Int32) (a_colors : Nat → Int32), KL21 x1 f_total a_colors → ∀ (H : Heap) (locs : List Loc) (ls : Array Slot), va_P G.1 vwCl (wd_X10_coloringCount G h_this h_now h_history h_over h_order h_colors h_row h_three h_seen h_group f_edits f_total a_now a_over a_colors) H → va_D A (wd_X10_coloringCount G h_this h_now h_history h_over h_order h_colors h_row h_three h_seen h_group f_edits f_total a_now a_over a_colors) → va_S A s.heap H locs → lv_has ls 4 [(1, .int x1)] → W p l e (headSpec wsX10_coloringCount rm_X10_coloringCount).room s m args below meth c H locs 0 0 (MQ below (qn_QI G (fun (r : Int32) (u : Int32 × (Nat → Int32) × (Nat → Int32)) => post r u.1 u.2.1 u.2.2) (fun u : Int32 × (Nat → Int32) × (Nat → Int32) => wd_X10_coloringCount G h_this h_now h_history h_over h_order h_colors h_row h_three h_seen h_group f_edits (u.1) a_now (u.2.1) (u.2.2)) A) args s 0 0 A) (F0 m 48 ls [])) :
    ∀ (fu : Nat) (x1 : Int32) (x3 : Int32) (f_total : Int32) (a_colors : Nat → Int32), wp_X10_coloringCount_L21 KL21 x2 a_now a_over fu x1 x3 f_total a_colors → ∀ (H : Heap) (locs : List Loc) (ls : Array Slot), va_P G.1 vwCl (wd_X10_coloringCount G h_this h_now h_history h_over h_order h_colors h_row h_three h_seen h_group f_edits f_total a_now a_over a_colors) H → va_D A (wd_X10_coloringCount G h_this h_now h_history h_over h_order h_colors h_row h_three h_seen h_group f_edits f_total a_now a_over a_colors) → va_S A s.heap H locs → lv_has ls 4 [(0, .ref h_this), (1, .int x1), (2, .int x2), (3, .int x3)] → W p l e (headSpec wsX10_coloringCount rm_X10_coloringCount).room s m args below meth c H locs 0 0 (MQ below (qn_QI G (fun (r : Int32) (u : Int32 × (Nat → Int32) × (Nat → Int32)) => post r u.1 u.2.1 u.2.2) (fun u : Int32 × (Nat → Int32) × (Nat → Int32) => wd_X10_coloringCount G h_this h_now h_history h_over h_order h_colors h_row h_three h_seen h_group f_edits (u.1) a_now (u.2.1) (u.2.2)) A) args s 0 0 A) (F0 m 21 ls []) := by
  obtain ⟨hx, hb, hml, hown, hts, hr, hlocks⟩ := id C0
  intro fu
  induction fu with
  | zero => intro x1 x3 f_total a_colors hw; exact hw.elim
  | succ fu ih =>
    intro x1 x3 f_total a_colors hw H locs ls hP hD hS hl
    refine lv_iload_n hx hb dX10_coloringCount_21 rfl (lv_at hl 3 rfl) ?_
    refine lv_iload_n hx hb dX10_coloringCount_22 rfl (lv_at hl 2 rfl) ?_
    refine lv_icmp_ge (tgt := 48) hx hb dX10_coloringCount_23 (by decide) (fun c_5 => ?_) (fun c_5 => ?_)
    · have hw := hw.1 c_5
      exact hKc x1 f_total a_colors hw _ _ _ hP hD hS (lv_sub hl [1] rfl)
    · have hw := hw.2 c_5
      refine lv_iload_n hx hb dX10_coloringCount_26 rfl (lv_at hl 1 rfl) ?_
      refine lv_aload_n hx hb dX10_coloringCount_27 rfl (lv_at hl 0 rfl) ?_
      refine lv_iload_n hx hb dX10_coloringCount_28 rfl (lv_at hl 3 rfl) ?_
      have hC9 : ([0, 1, 2, 3]).map (fun i => (wd_X10_coloringCount G h_this h_now h_history h_over h_order h_colors h_row h_three h_seen h_group f_edits f_total a_now a_over a_colors)[i]?) = (wd_X10_isColoring G h_this h_now h_history h_over h_order h_colors h_row h_three h_seen h_group f_edits f_total a_now a_over a_colors).map some := rfl
      refine qn_callI (wd := (fun u : Int32 × (Nat → Int32) => wd_X10_coloringCount G h_this h_now h_history h_over h_order h_colors h_row h_three h_seen h_group f_edits (u.1) a_now a_over (u.2))) [0, 1, 2, 3] (va_runV (As := [.int x3]) (rest := [.int x1]) ⟨hx, hb, hml, hown, hts⟩ (c_X10_isColoring G _ h_this h_now h_history h_over h_order h_colors h_row h_three h_seen h_group f_edits f_total a_now a_over a_colors x3 hw) (cwV 1 hts gX10_coloringCount_X10_isColoring rfl rfl rfl (by decide +kernel) ⟨Nat.le_of_ble_eq_true rfl, Nat.le_of_ble_eq_true rfl⟩) (qn_preV hE hP hD [0, 1, 2, 3] hC9 (by decide +kernel) (ci := 10) rfl rfl) rfl rfl hl.1 rfl (lv_room (Nat.le_of_ble_eq_true rfl)) dX10_coloringCount_29 ⟨Nat.le_of_ble_eq_true rfl, Nat.le_of_ble_eq_true rfl⟩) hP hD hS hA hC9 [some 0, some 1, some 2, some 3] (M := 4) rfl (by decide +kernel) (fun _ => rfl) (fun _ => rfl) (fun r_8 u_9 H locs hw hP hD hS => ?_)
      obtain ⟨f_total_6, a_colors_7⟩ := u_9
      try dsimp only at hw
      have hP : va_P G.1 vwCl (wd_X10_coloringCount G h_this h_now h_history h_over h_order h_colors h_row h_three h_seen h_group f_edits f_total_6 a_now a_over a_colors_7) H := hP
      have hD : va_D A (wd_X10_coloringCount G h_this h_now h_history h_over h_order h_colors h_row h_three h_seen h_group f_edits f_total_6 a_now a_over a_colors_7) := hD
      refine lv_if_eq (tgt := 39) hx hb dX10_coloringCount_32 (by decide) (fun c_10 => ?_) (fun c_10 => ?_)
      · have hw := hw.1 c_10
        refine lv_iconst (v := 0) hx hb dX10_coloringCount_39 (by decide) ?_
        refine lv_iadd hx hb dX10_coloringCount_40 ?_
        refine lv_topi (fun x1_11 ex1_11 => ?_)
        have hw := hw x1_11 ex1_11
        refine lv_istore_n (lv' := [(1, .int x1_11), (0, .ref h_this), (2, .int x2), (3, .int x3)]) hx hb dX10_coloringCount_41 rfl hl (by decide) rfl (fun ls hl => ?_)
        obtain ⟨x3_12, ex3_12⟩ : ∃ y : Int32, y = x3 + 1 := ⟨_, rfl⟩
        have hw := hw x3_12 ex3_12
        refine lv_iinc (v := x3_12) (lv' := [(3, .int x3_12), (1, .int x1_11), (0, .ref h_this), (2, .int x2)]) hx hb dX10_coloringCount_42 hl (k := 3) rfl (by rw [ex3_12]; rfl) (by decide) rfl (fun ls hl => ?_)
        refine lv_goto (tgt := 21) hx hb dX10_coloringCount_45 (by decide) ?_
        exact ih x1_11 x3_12 f_total_6 a_colors_7 hw _ _ _ hP hD hS (lv_sub hl [2, 1, 3, 0] rfl)
      · have hw := hw.2 c_10
        refine lv_iconst (v := 1) hx hb dX10_coloringCount_35 (by decide) ?_
        refine lv_goto (tgt := 40) hx hb dX10_coloringCount_36 (by decide) ?_
        refine lv_iadd hx hb dX10_coloringCount_40 ?_
        refine lv_topi (fun x1_13 ex1_13 => ?_)
        have hw := hw x1_13 ex1_13
        refine lv_istore_n (lv' := [(1, .int x1_13), (0, .ref h_this), (2, .int x2), (3, .int x3)]) hx hb dX10_coloringCount_41 rfl hl (by decide) rfl (fun ls hl => ?_)
        obtain ⟨x3_14, ex3_14⟩ : ∃ y : Int32, y = x3 + 1 := ⟨_, rfl⟩
        have hw := hw x3_14 ex3_14
        refine lv_iinc (v := x3_14) (lv' := [(3, .int x3_14), (1, .int x1_13), (0, .ref h_this), (2, .int x2)]) hx hb dX10_coloringCount_42 hl (k := 3) rfl (by rw [ex3_14]; rfl) (by decide) rfl (fun ls hl => ?_)
        refine lv_goto (tgt := 21) hx hb dX10_coloringCount_45 (by decide) ?_
        exact ih x1_13 x3_14 f_total_6 a_colors_7 hw _ _ _ hP hD hS (lv_sub hl [2, 1, 3, 0] rfl)
set_option maxHeartbeats 4000000 in
set_option maxRecDepth 100000 in
theorem c_X10_coloringCount {l : Launch} (G : qn_G) (sz : Nat) (h_this h_now h_history h_over h_order h_colors h_row h_three h_seen h_group : Nat) (f_edits : Int32) (f_total : Int32) (a_now : Nat → Int32) (a_over : Nat → Int32) (a_colors : Nat → Int32) {post : Int32 → Int32 → (Nat → Int32) → (Nat → Int32) → Prop} (hw : wp_X10_coloringCount post f_total a_now a_over a_colors) : Met l yX10_coloringCount wsX10_coloringCount rm_X10_coloringCount (qn_PC G [.ref h_this] sz (wd_X10_coloringCount G h_this h_now h_history h_over h_order h_colors h_row h_three h_seen h_group f_edits f_total a_now a_over a_colors)) (qn_QI G (fun (r : Int32) (u : Int32 × (Nat → Int32) × (Nat → Int32)) => post r u.1 u.2.1 u.2.2) (fun u : Int32 × (Nat → Int32) × (Nat → Int32) => wd_X10_coloringCount G h_this h_now h_history h_over h_order h_colors h_row h_three h_seen h_group f_edits (u.1) a_now (u.2.1) (u.2.2)) (va_A (wd_X10_coloringCount G h_this h_now h_history h_over h_order h_colors h_row h_three h_seen h_group f_edits f_total a_now a_over a_colors) sz)) 0 0 (va_A (wd_X10_coloringCount G h_this h_now h_history h_over h_order h_colors h_row h_three h_seen h_group f_edits f_total a_now a_over a_colors) sz) := by
  refine Met.ofW (cc := cX10_coloringCount) (maxL := 4) (ret := (some .int)) (by decide) rfl ?_
  intro p e s m args below meth c s₁ B hml hv
  obtain ⟨rfl, hsz, hP, hE, hD0⟩ := hv
  have C0 : qn_C p m c cX10_coloringCount 4 s _ wsX10_coloringCount RX10 meth (some .int) := qn_C0 B hml
  obtain ⟨hx, hb, -, hown, hts, hr, hlocks⟩ := id C0
  subst hsz
  have hD := hD0.self (sz := s.heap.size)
  generalize hAe : va_A (wd_X10_coloringCount G h_this h_now h_history h_over h_order h_colors h_row h_three h_seen h_group f_edits f_total a_now a_over a_colors) s.heap.size = A at hD ⊢
  have hA : ∀ q : Nat, s.heap.size ≤ q → A q := fun q h => by rw [← hAe]; exact Or.inr h
  clear hAe
  have hS : va_S A s.heap s.heap [] := va_S.rf
  have hl := lv_entry ([.ref h_this]) (n := 4) (Nat.le_of_ble_eq_true rfl)
  rw [lg_entry_eq]
  generalize (lg_sl ([.ref h_this]) ++ List.replicate (4 - (lg_sl ([.ref h_this])).length) Slot.unset).toArray = ls at hl ⊢
  have hl : lv_has ls 4 [(0, .ref h_this)] := hl
  have hP : va_P G.1 vwCl (wd_X10_coloringCount G h_this h_now h_history h_over h_order h_colors h_row h_three h_seen h_group f_edits f_total a_now a_over a_colors) s.heap := hP
  refine lv_aload_n hx hb dX10_coloringCount_0 rfl (lv_at hl 0 rfl) ?_
  have hC9 : ([0, 1, 2]).map (fun i => (wd_X10_coloringCount G h_this h_now h_history h_over h_order h_colors h_row h_three h_seen h_group f_edits f_total a_now a_over a_colors)[i]?) = (wd_X10_column G h_this h_now h_history h_over h_order h_colors h_row h_three h_seen h_group f_edits f_total a_now a_over).map some := rfl
  refine qn_callI (wd := (fun u : (Nat → Int32) => wd_X10_coloringCount G h_this h_now h_history h_over h_order h_colors h_row h_three h_seen h_group f_edits f_total a_now u a_colors)) [0, 1, 2] (va_runV (As := []) (rest := []) ⟨hx, hb, hml, hown, hts⟩ (c_X10_column G _ h_this h_now h_history h_over h_order h_colors h_row h_three h_seen h_group f_edits f_total a_now a_over hw) (cwV 0 hts gX10_coloringCount_X10_column rfl rfl rfl (by decide +kernel) ⟨Nat.le_of_ble_eq_true rfl, Nat.le_of_ble_eq_true rfl⟩) (qn_preV hE hP hD [0, 1, 2] hC9 (by decide +kernel) (ci := 10) rfl rfl) rfl rfl hl.1 rfl (lv_room (Nat.le_of_ble_eq_true rfl)) dX10_coloringCount_1 ⟨Nat.le_of_ble_eq_true rfl, Nat.le_of_ble_eq_true rfl⟩) hP hD hS hA hC9 [some 0, some 1, some 2, none] (M := 4) rfl (by decide +kernel) (fun _ => rfl) (fun _ => rfl) (fun r_2 a_over_1 H locs hw hP hD hS => ?_)
  try dsimp only at hw
  have hP : va_P G.1 vwCl (wd_X10_coloringCount G h_this h_now h_history h_over h_order h_colors h_row h_three h_seen h_group f_edits f_total a_now a_over_1 a_colors) H := hP
  have hD : va_D A (wd_X10_coloringCount G h_this h_now h_history h_over h_order h_colors h_row h_three h_seen h_group f_edits f_total a_now a_over_1 a_colors) := hD
  refine lv_bipush (v := (-4)) hx hb dX10_coloringCount_4 (by decide) ?_
  refine lv_icmp_eq (tgt := 12) hx hb dX10_coloringCount_6 (by decide) (fun c_3 => ?_) (fun c_3 => ?_)
  · have hw := hw.1 c_3
    refine lv_iconst (v := 0) hx hb dX10_coloringCount_12 (by decide) ?_
    refine lv_istore_n (lv' := [(1, .int 0), (0, .ref h_this)]) hx hb dX10_coloringCount_13 rfl hl (by decide) rfl (fun ls hl => ?_)
    refine lv_aload_n hx hb dX10_coloringCount_14 rfl (lv_at hl 1 rfl) ?_
    have hC9 : ([0, 1]).map (fun i => (wd_X10_coloringCount G h_this h_now h_history h_over h_order h_colors h_row h_three h_seen h_group f_edits f_total a_now a_over_1 a_colors)[i]?) = (wd_X10_codes G h_this h_now h_history h_over h_order h_colors h_row h_three h_seen h_group f_edits f_total a_now).map some := rfl
    refine qn_callI (wd := (fun u : Unit => wd_X10_coloringCount G h_this h_now h_history h_over h_order h_colors h_row h_three h_seen h_group f_edits f_total a_now a_over_1 a_colors)) [0, 1] (va_runV (As := []) (rest := []) ⟨hx, hb, hml, hown, hts⟩ (c_X10_codes G _ h_this h_now h_history h_over h_order h_colors h_row h_three h_seen h_group f_edits f_total a_now hw) (cwV 0 hts gX10_coloringCount_X10_codes rfl rfl rfl (by decide +kernel) ⟨Nat.le_of_ble_eq_true rfl, Nat.le_of_ble_eq_true rfl⟩) (qn_preV hE hP hD [0, 1] hC9 (by decide +kernel) (ci := 10) rfl rfl) rfl rfl hl.1 rfl (lv_room (Nat.le_of_ble_eq_true rfl)) dX10_coloringCount_15 ⟨Nat.le_of_ble_eq_true rfl, Nat.le_of_ble_eq_true rfl⟩) hP hD hS hA hC9 [some 0, some 1, none, none] (M := 4) rfl (by decide +kernel) (fun _ => rfl) (fun _ => rfl) (fun r_4 _ H locs hw hP hD hS => ?_)
    try dsimp only at hw
    have hP : va_P G.1 vwCl (wd_X10_coloringCount G h_this h_now h_history h_over h_order h_colors h_row h_three h_seen h_group f_edits f_total a_now a_over_1 a_colors) H := hP
    have hD : va_D A (wd_X10_coloringCount G h_this h_now h_history h_over h_order h_colors h_row h_three h_seen h_group f_edits f_total a_now a_over_1 a_colors) := hD
    refine lv_istore_n (lv' := [(2, .int r_4), (1, .int 0), (0, .ref h_this)]) hx hb dX10_coloringCount_18 rfl hl (by decide) rfl (fun ls hl => ?_)
    refine lv_iconst (v := 0) hx hb dX10_coloringCount_19 (by decide) ?_
    refine lv_istore_n (lv' := [(3, .int 0), (2, .int r_4), (1, .int 0), (0, .ref h_this)]) hx hb dX10_coloringCount_20 rfl hl (by decide) rfl (fun ls hl => ?_)
    obtain ⟨fu_18, hw⟩ := hw
    refine l_X10_coloringCount_21 (post := post) C0 hE hA (fun x1_15 f_total_16 a_colors_17 hw H locs ls hP hD hS hl => ?_) fu_18 0 0 f_total a_colors hw _ _ _ hP hD hS (lv_sub hl [3, 2, 1, 0] rfl)
    refine lv_iload_n hx hb dX10_coloringCount_48 rfl (lv_at hl 0 rfl) ?_
    exact W.iret (v := x1_15) hx hb hr (fun t ht hW => ⟨⟨x1_15, (f_total_16, a_over_1, a_colors_17), rfl, hw, by rw [ht]; exact hP, hD⟩, hS.F ht⟩) hS.2.2 dX10_coloringCount_49
  · have hw := hw.2 c_3
    refine lv_bipush (v := (-2)) hx hb dX10_coloringCount_9 (by decide) ?_
    exact W.iret (v := (-2)) hx hb hr (fun t ht hW => ⟨⟨(-2), (f_total, a_over_1, a_colors), rfl, hw, by rw [ht]; exact hP, hD⟩, hS.F ht⟩) hS.2.2 dX10_coloringCount_11
-- QuandleColoringsModel.nextColoring(I)I
abbrev rm_X10_nextColoring : Room := { frames := 2, cells := 0, slots := 0, locals := 50 }
abbrev wd_X10_nextColoring (G : qn_G) (h_this h_now h_history h_over h_order h_colors h_row h_three h_seen h_group : Nat) (f_edits : Int32) (f_total : Int32) (a_now : Nat → Int32) (a_over : Nat → Int32) (a_colors : Nat → Int32) : va_W := [(h_this, .inr (10, [.ref h_now, .ref h_history, .int f_edits, .ref h_over, .ref h_order, .ref h_colors, .int f_total, .ref h_row, .ref h_three, .ref h_seen, .ref h_group])), (h_now, .inl (G.2.1, 88, .inl a_now)), (h_over, .inl (G.2.1, 36, .inl a_over)), (h_colors, .inl (G.2.1, 4, .inl a_colors))]
def wp_X10_nextColoring_L25 (post : Int32 → Int32 → (Nat → Int32) → (Nat → Int32) → Prop) (KL25 : Int32 → (Nat → Int32) → Prop) (x2 : Int32) (a_now : Nat → Int32) (a_over : Nat → Int32) : Nat → Int32 → Int32 → (Nat → Int32) → Prop
  | 0 => fun _ _ _ => False
  | fu + 1 => fun x3 f_total a_colors => ((x2 ≤ x3 → (KL25 f_total a_colors)) ∧ (¬ x2 ≤ x3 → (wp_X10_isColoring (fun (r_9 : Int32) (f_total_7 : Int32) (a_colors_8 : Nat → Int32) => ((r_9 = 0 → (∀ x3_12 : Int32, x3_12 = x3 + 1 → ((wp_X10_nextColoring_L25 post KL25 x2 a_now a_over fu) x3_12 f_total_7 a_colors_8))) ∧ (¬ r_9 = 0 → (post x3 f_total_7 a_over a_colors_8)))) a_now a_over a_colors x3)))
def wp_X10_nextColoring (post : Int32 → Int32 → (Nat → Int32) → (Nat → Int32) → Prop) (f_total : Int32) (a_now : Nat → Int32) (a_over : Nat → Int32) (a_colors : Nat → Int32) (x1 : Int32) : Prop := ((0 ≤ x1 → (wp_X10_column (fun (r_3 : Int32) (a_over_2 : Nat → Int32) => ((r_3 = (-4) → (wp_X10_codes (fun (r_5 : Int32) => (∃ fu_15 : Nat, wp_X10_nextColoring_L25 post (fun (f_total_13 : Int32) (a_colors_14 : Nat → Int32) => (post (-4) f_total_13 a_over_2 a_colors_14)) r_5 a_now a_over_2 fu_15 x1 f_total a_colors)) a_now)) ∧ (¬ r_3 = (-4) → (post (-2) f_total a_over_2 a_colors)))) a_now a_over)) ∧ (¬ 0 ≤ x1 → (post (-1) f_total a_over a_colors)))
set_option maxHeartbeats 4000000 in
set_option maxRecDepth 100000 in
theorem l_X10_nextColoring_25 {p : Program} {l : Launch} {e : Env} {s : State} {m : MethodId} {args : Array Value} {below : List Frame} {meth : Method} {c : Code} {G : qn_G} {A : Nat → Prop} {h_this h_now h_history h_over h_order h_colors h_row h_three h_seen h_group : Nat} {f_edits : Int32} {a_now : Nat → Int32} {a_over : Nat → Int32} {x2 : Int32} {post : Int32 → Int32 → (Nat → Int32) → (Nat → Int32) → Prop} {KL25 : Int32 → (Nat → Int32) → Prop} (C0 : qn_C p m c cX10_nextColoring 4 s args wsX10_nextColoring RX10 meth (some .int)) (hE : qn_EV G s) (hA : ∀ q, s.heap.size ≤ q → A q) (hKc : ∀ (f_total : Int32) (a_colors : Nat → Int32), KL25 f_total a_colors → ∀ (H : Heap) (locs : List Loc) (ls : Array Slot), va_P G.1 vwCl (wd_X10_nextColoring G h_this h_now h_history h_over h_order h_colors h_row h_three h_seen h_group f_edits f_total a_now a_over a_colors) H → va_D A (wd_X10_nextColoring G h_this h_now h_history h_over h_order h_colors h_row h_three h_seen h_group f_edits f_total a_now a_over a_colors) → va_S A s.heap H locs → lv_has ls 4 [] → W p l e (headSpec wsX10_nextColoring rm_X10_nextColoring).room s m args below meth c H locs 0 0 (MQ below (qn_QI G (fun (r : Int32) (u : Int32 × (Nat → Int32) × (Nat → Int32)) => post r u.1 u.2.1 u.2.2) (fun u : Int32 × (Nat → Int32) × (Nat → Int32) => wd_X10_nextColoring G h_this h_now h_history h_over h_order h_colors h_row h_three h_seen h_group f_edits (u.1) a_now (u.2.1) (u.2.2)) A) args s 0 0 A) (F0 m 46 ls [])) :
    ∀ (fu : Nat) (x3 : Int32) (f_total : Int32) (a_colors : Nat → Int32), wp_X10_nextColoring_L25 post KL25 x2 a_now a_over fu x3 f_total a_colors → ∀ (H : Heap) (locs : List Loc) (ls : Array Slot), va_P G.1 vwCl (wd_X10_nextColoring G h_this h_now h_history h_over h_order h_colors h_row h_three h_seen h_group f_edits f_total a_now a_over a_colors) H → va_D A (wd_X10_nextColoring G h_this h_now h_history h_over h_order h_colors h_row h_three h_seen h_group f_edits f_total a_now a_over a_colors) → va_S A s.heap H locs → lv_has ls 4 [(0, .ref h_this), (2, .int x2), (3, .int x3)] → W p l e (headSpec wsX10_nextColoring rm_X10_nextColoring).room s m args below meth c H locs 0 0 (MQ below (qn_QI G (fun (r : Int32) (u : Int32 × (Nat → Int32) × (Nat → Int32)) => post r u.1 u.2.1 u.2.2) (fun u : Int32 × (Nat → Int32) × (Nat → Int32) => wd_X10_nextColoring G h_this h_now h_history h_over h_order h_colors h_row h_three h_seen h_group f_edits (u.1) a_now (u.2.1) (u.2.2)) A) args s 0 0 A) (F0 m 25 ls []) := by
  obtain ⟨hx, hb, hml, hown, hts, hr, hlocks⟩ := id C0
  intro fu
  induction fu with
  | zero => intro x3 f_total a_colors hw; exact hw.elim
  | succ fu ih =>
    intro x3 f_total a_colors hw H locs ls hP hD hS hl
    refine lv_iload_n hx hb dX10_nextColoring_25 rfl (lv_at hl 2 rfl) ?_
    refine lv_iload_n hx hb dX10_nextColoring_26 rfl (lv_at hl 1 rfl) ?_
    refine lv_icmp_ge (tgt := 46) hx hb dX10_nextColoring_27 (by decide) (fun c_6 => ?_) (fun c_6 => ?_)
    · have hw := hw.1 c_6
      exact hKc f_total a_colors hw _ _ _ hP hD hS (lv_sub hl [] rfl)
    · have hw := hw.2 c_6
      refine lv_aload_n hx hb dX10_nextColoring_30 rfl (lv_at hl 0 rfl) ?_
      refine lv_iload_n hx hb dX10_nextColoring_31 rfl (lv_at hl 2 rfl) ?_
      have hC9 : ([0, 1, 2, 3]).map (fun i => (wd_X10_nextColoring G h_this h_now h_history h_over h_order h_colors h_row h_three h_seen h_group f_edits f_total a_now a_over a_colors)[i]?) = (wd_X10_isColoring G h_this h_now h_history h_over h_order h_colors h_row h_three h_seen h_group f_edits f_total a_now a_over a_colors).map some := rfl
      refine qn_callI (wd := (fun u : Int32 × (Nat → Int32) => wd_X10_nextColoring G h_this h_now h_history h_over h_order h_colors h_row h_three h_seen h_group f_edits (u.1) a_now a_over (u.2))) [0, 1, 2, 3] (va_runV (As := [.int x3]) (rest := []) ⟨hx, hb, hml, hown, hts⟩ (c_X10_isColoring G _ h_this h_now h_history h_over h_order h_colors h_row h_three h_seen h_group f_edits f_total a_now a_over a_colors x3 hw) (cwV 1 hts gX10_nextColoring_X10_isColoring rfl rfl rfl (by decide +kernel) ⟨Nat.le_of_ble_eq_true rfl, Nat.le_of_ble_eq_true rfl⟩) (qn_preV hE hP hD [0, 1, 2, 3] hC9 (by decide +kernel) (ci := 10) rfl rfl) rfl rfl hl.1 rfl (lv_room (Nat.le_of_ble_eq_true rfl)) dX10_nextColoring_32 ⟨Nat.le_of_ble_eq_true rfl, Nat.le_of_ble_eq_true rfl⟩) hP hD hS hA hC9 [some 0, some 1, some 2, some 3] (M := 4) rfl (by decide +kernel) (fun _ => rfl) (fun _ => rfl) (fun r_9 u_10 H locs hw hP hD hS => ?_)
      obtain ⟨f_total_7, a_colors_8⟩ := u_10
      try dsimp only at hw
      have hP : va_P G.1 vwCl (wd_X10_nextColoring G h_this h_now h_history h_over h_order h_colors h_row h_three h_seen h_group f_edits f_total_7 a_now a_over a_colors_8) H := hP
      have hD : va_D A (wd_X10_nextColoring G h_this h_now h_history h_over h_order h_colors h_row h_three h_seen h_group f_edits f_total_7 a_now a_over a_colors_8) := hD
      refine lv_if_eq (tgt := 40) hx hb dX10_nextColoring_35 (by decide) (fun c_11 => ?_) (fun c_11 => ?_)
      · have hw := hw.1 c_11
        obtain ⟨x3_12, ex3_12⟩ : ∃ y : Int32, y = x3 + 1 := ⟨_, rfl⟩
        have hw := hw x3_12 ex3_12
        refine lv_iinc (v := x3_12) (lv' := [(3, .int x3_12), (0, .ref h_this), (2, .int x2)]) hx hb dX10_nextColoring_40 hl (k := 2) rfl (by rw [ex3_12]; rfl) (by decide) rfl (fun ls hl => ?_)
        refine lv_goto (tgt := 25) hx hb dX10_nextColoring_43 (by decide) ?_
        exact ih x3_12 f_total_7 a_colors_8 hw _ _ _ hP hD hS (lv_sub hl [1, 2, 0] rfl)
      · have hw := hw.2 c_11
        refine lv_iload_n hx hb dX10_nextColoring_38 rfl (lv_at hl 2 rfl) ?_
        exact W.iret (v := x3) hx hb hr (fun t ht hW => ⟨⟨x3, (f_total_7, a_over, a_colors_8), rfl, hw, by rw [ht]; exact hP, hD⟩, hS.F ht⟩) hS.2.2 dX10_nextColoring_39
set_option maxHeartbeats 4000000 in
set_option maxRecDepth 100000 in
theorem c_X10_nextColoring {l : Launch} (G : qn_G) (sz : Nat) (h_this h_now h_history h_over h_order h_colors h_row h_three h_seen h_group : Nat) (f_edits : Int32) (f_total : Int32) (a_now : Nat → Int32) (a_over : Nat → Int32) (a_colors : Nat → Int32) (x1 : Int32) {post : Int32 → Int32 → (Nat → Int32) → (Nat → Int32) → Prop} (hw : wp_X10_nextColoring post f_total a_now a_over a_colors x1) : Met l yX10_nextColoring wsX10_nextColoring rm_X10_nextColoring (qn_PC G [.ref h_this, .int x1] sz (wd_X10_nextColoring G h_this h_now h_history h_over h_order h_colors h_row h_three h_seen h_group f_edits f_total a_now a_over a_colors)) (qn_QI G (fun (r : Int32) (u : Int32 × (Nat → Int32) × (Nat → Int32)) => post r u.1 u.2.1 u.2.2) (fun u : Int32 × (Nat → Int32) × (Nat → Int32) => wd_X10_nextColoring G h_this h_now h_history h_over h_order h_colors h_row h_three h_seen h_group f_edits (u.1) a_now (u.2.1) (u.2.2)) (va_A (wd_X10_nextColoring G h_this h_now h_history h_over h_order h_colors h_row h_three h_seen h_group f_edits f_total a_now a_over a_colors) sz)) 0 0 (va_A (wd_X10_nextColoring G h_this h_now h_history h_over h_order h_colors h_row h_three h_seen h_group f_edits f_total a_now a_over a_colors) sz) := by
  refine Met.ofW (cc := cX10_nextColoring) (maxL := 4) (ret := (some .int)) (by decide) rfl ?_
  intro p e s m args below meth c s₁ B hml hv
  obtain ⟨rfl, hsz, hP, hE, hD0⟩ := hv
  have C0 : qn_C p m c cX10_nextColoring 4 s _ wsX10_nextColoring RX10 meth (some .int) := qn_C0 B hml
  obtain ⟨hx, hb, -, hown, hts, hr, hlocks⟩ := id C0
  subst hsz
  have hD := hD0.self (sz := s.heap.size)
  generalize hAe : va_A (wd_X10_nextColoring G h_this h_now h_history h_over h_order h_colors h_row h_three h_seen h_group f_edits f_total a_now a_over a_colors) s.heap.size = A at hD ⊢
  have hA : ∀ q : Nat, s.heap.size ≤ q → A q := fun q h => by rw [← hAe]; exact Or.inr h
  clear hAe
  have hS : va_S A s.heap s.heap [] := va_S.rf
  have hl := lv_entry ([.ref h_this, .int x1]) (n := 4) (Nat.le_of_ble_eq_true rfl)
  rw [lg_entry_eq]
  generalize (lg_sl ([.ref h_this, .int x1]) ++ List.replicate (4 - (lg_sl ([.ref h_this, .int x1])).length) Slot.unset).toArray = ls at hl ⊢
  have hl : lv_has ls 4 [(0, .ref h_this), (1, .int x1)] := hl
  have hP : va_P G.1 vwCl (wd_X10_nextColoring G h_this h_now h_history h_over h_order h_colors h_row h_three h_seen h_group f_edits f_total a_now a_over a_colors) s.heap := hP
  refine lv_iload_n hx hb dX10_nextColoring_0 rfl (lv_at hl 1 rfl) ?_
  refine lv_if_ge (tgt := 6) hx hb dX10_nextColoring_1 (by decide) (fun c_1 => ?_) (fun c_1 => ?_)
  · have hw := hw.1 c_1
    refine lv_aload_n hx hb dX10_nextColoring_6 rfl (lv_at hl 0 rfl) ?_
    have hC9 : ([0, 1, 2]).map (fun i => (wd_X10_nextColoring G h_this h_now h_history h_over h_order h_colors h_row h_three h_seen h_group f_edits f_total a_now a_over a_colors)[i]?) = (wd_X10_column G h_this h_now h_history h_over h_order h_colors h_row h_three h_seen h_group f_edits f_total a_now a_over).map some := rfl
    refine qn_callI (wd := (fun u : (Nat → Int32) => wd_X10_nextColoring G h_this h_now h_history h_over h_order h_colors h_row h_three h_seen h_group f_edits f_total a_now u a_colors)) [0, 1, 2] (va_runV (As := []) (rest := []) ⟨hx, hb, hml, hown, hts⟩ (c_X10_column G _ h_this h_now h_history h_over h_order h_colors h_row h_three h_seen h_group f_edits f_total a_now a_over hw) (cwV 0 hts gX10_nextColoring_X10_column rfl rfl rfl (by decide +kernel) ⟨Nat.le_of_ble_eq_true rfl, Nat.le_of_ble_eq_true rfl⟩) (qn_preV hE hP hD [0, 1, 2] hC9 (by decide +kernel) (ci := 10) rfl rfl) rfl rfl hl.1 rfl (lv_room (Nat.le_of_ble_eq_true rfl)) dX10_nextColoring_7 ⟨Nat.le_of_ble_eq_true rfl, Nat.le_of_ble_eq_true rfl⟩) hP hD hS hA hC9 [some 0, some 1, some 2, none] (M := 4) rfl (by decide +kernel) (fun _ => rfl) (fun _ => rfl) (fun r_3 a_over_2 H locs hw hP hD hS => ?_)
    try dsimp only at hw
    have hP : va_P G.1 vwCl (wd_X10_nextColoring G h_this h_now h_history h_over h_order h_colors h_row h_three h_seen h_group f_edits f_total a_now a_over_2 a_colors) H := hP
    have hD : va_D A (wd_X10_nextColoring G h_this h_now h_history h_over h_order h_colors h_row h_three h_seen h_group f_edits f_total a_now a_over_2 a_colors) := hD
    refine lv_bipush (v := (-4)) hx hb dX10_nextColoring_10 (by decide) ?_
    refine lv_icmp_eq (tgt := 18) hx hb dX10_nextColoring_12 (by decide) (fun c_4 => ?_) (fun c_4 => ?_)
    · have hw := hw.1 c_4
      refine lv_aload_n hx hb dX10_nextColoring_18 rfl (lv_at hl 0 rfl) ?_
      have hC9 : ([0, 1]).map (fun i => (wd_X10_nextColoring G h_this h_now h_history h_over h_order h_colors h_row h_three h_seen h_group f_edits f_total a_now a_over_2 a_colors)[i]?) = (wd_X10_codes G h_this h_now h_history h_over h_order h_colors h_row h_three h_seen h_group f_edits f_total a_now).map some := rfl
      refine qn_callI (wd := (fun u : Unit => wd_X10_nextColoring G h_this h_now h_history h_over h_order h_colors h_row h_three h_seen h_group f_edits f_total a_now a_over_2 a_colors)) [0, 1] (va_runV (As := []) (rest := []) ⟨hx, hb, hml, hown, hts⟩ (c_X10_codes G _ h_this h_now h_history h_over h_order h_colors h_row h_three h_seen h_group f_edits f_total a_now hw) (cwV 0 hts gX10_nextColoring_X10_codes rfl rfl rfl (by decide +kernel) ⟨Nat.le_of_ble_eq_true rfl, Nat.le_of_ble_eq_true rfl⟩) (qn_preV hE hP hD [0, 1] hC9 (by decide +kernel) (ci := 10) rfl rfl) rfl rfl hl.1 rfl (lv_room (Nat.le_of_ble_eq_true rfl)) dX10_nextColoring_19 ⟨Nat.le_of_ble_eq_true rfl, Nat.le_of_ble_eq_true rfl⟩) hP hD hS hA hC9 [some 0, some 1, none, none] (M := 4) rfl (by decide +kernel) (fun _ => rfl) (fun _ => rfl) (fun r_5 _ H locs hw hP hD hS => ?_)
      try dsimp only at hw
      have hP : va_P G.1 vwCl (wd_X10_nextColoring G h_this h_now h_history h_over h_order h_colors h_row h_three h_seen h_group f_edits f_total a_now a_over_2 a_colors) H := hP
      have hD : va_D A (wd_X10_nextColoring G h_this h_now h_history h_over h_order h_colors h_row h_three h_seen h_group f_edits f_total a_now a_over_2 a_colors) := hD
      refine lv_istore_n (lv' := [(2, .int r_5), (0, .ref h_this), (1, .int x1)]) hx hb dX10_nextColoring_22 rfl hl (by decide) rfl (fun ls hl => ?_)
      refine lv_iload_n hx hb dX10_nextColoring_23 rfl (lv_at hl 2 rfl) ?_
      refine lv_istore_n (lv' := [(3, .int x1), (2, .int r_5), (0, .ref h_this), (1, .int x1)]) hx hb dX10_nextColoring_24 rfl hl (by decide) rfl (fun ls hl => ?_)
      obtain ⟨fu_15, hw⟩ := hw
      refine l_X10_nextColoring_25 (post := post) C0 hE hA (fun f_total_13 a_colors_14 hw H locs ls hP hD hS hl => ?_) fu_15 x1 f_total a_colors hw _ _ _ hP hD hS (lv_sub hl [2, 1, 0] rfl)
      refine lv_bipush (v := (-4)) hx hb dX10_nextColoring_46 (by decide) ?_
      exact W.iret (v := (-4)) hx hb hr (fun t ht hW => ⟨⟨(-4), (f_total_13, a_over_2, a_colors_14), rfl, hw, by rw [ht]; exact hP, hD⟩, hS.F ht⟩) hS.2.2 dX10_nextColoring_48
    · have hw := hw.2 c_4
      refine lv_bipush (v := (-2)) hx hb dX10_nextColoring_15 (by decide) ?_
      exact W.iret (v := (-2)) hx hb hr (fun t ht hW => ⟨⟨(-2), (f_total, a_over_2, a_colors), rfl, hw, by rw [ht]; exact hP, hD⟩, hS.F ht⟩) hS.2.2 dX10_nextColoring_17
  · have hw := hw.2 c_1
    refine lv_iconst (v := (-1)) hx hb dX10_nextColoring_4 (by decide) ?_
    exact W.iret (v := (-1)) hx hb hr (fun t ht hW => ⟨⟨(-1), (f_total, a_over, a_colors), rfl, hw, by rw [ht]; exact hP, hD⟩, hS.F ht⟩) hS.2.2 dX10_nextColoring_5
-- QuandleColoringsModel.setModulus(I)I
abbrev rm_X10_setModulus : Room := { frames := 1, cells := 0, slots := 0, locals := 22 }
abbrev wd_X10_setModulus (G : qn_G) (h_this h_now h_history h_over h_order h_colors h_row h_three h_seen h_group : Nat) (f_edits : Int32) (f_total : Int32) (a_now : Nat → Int32) (a_history : Nat → Int32) : va_W := [(h_this, .inr (10, [.ref h_now, .ref h_history, .int f_edits, .ref h_over, .ref h_order, .ref h_colors, .int f_total, .ref h_row, .ref h_three, .ref h_seen, .ref h_group])), (h_now, .inl (G.2.1, 88, .inl a_now)), (h_history, .inl (G.2.1, 440, .inl a_history))]
theorem in_X10_setModulus_X10 : ∀ w ∈ u_ws RX10 TX10 11, w ∈ wsX10_setModulus := by decide +kernel
theorem lk_X10_setModulus_7 : Cond.fieldLink RX10 7 "QuandleColoringsModel" "now" "[I" ∈ wsX10_setModulus := by decide +kernel
def wp_X10_setModulus_L34 (KL34 : (Nat → Int32) → Prop) : Nat → Int32 → (Nat → Int32) → Prop
  | 0 => fun _ _ => False
  | fu + 1 => fun x3 a_now => ((36 ≤ x3 → (KL34 a_now)) ∧ (¬ 36 ≤ x3 → (vp_in (36 + x3) 88 ∧ (∀ a_now_9 : Nat → Int32, a_now_9 = upd a_now (36 + x3).toNatClampNeg 0 → (∀ x3_10 : Int32, x3_10 = x3 + 1 → ((wp_X10_setModulus_L34 KL34 fu) x3_10 a_now_9))))))
def wp_X10_setModulus (post : Int32 → Int32 → (Nat → Int32) → (Nat → Int32) → Prop) (f_edits : Int32) (a_now : Nat → Int32) (a_history : Nat → Int32) (x1 : Int32) : Prop := (wp_X10_in (fun (r_1 : Int32) => ((¬ r_1 = 0 → (wp_X10_edit (fun (f_edits_3 : Int32) (a_history_4 : Nat → Int32) => (vp_in 87 88 ∧ (∀ x2_6 : Int32, x2_6 = a_now (87 : Int32).toNatClampNeg → (vp_in 87 88 ∧ (∀ a_now_7 : Nat → Int32, a_now_7 = upd a_now (87 : Int32).toNatClampNeg x1 → (∃ fu_12 : Nat, wp_X10_setModulus_L34 (fun (a_now_11 : Nat → Int32) => (post x2_6 f_edits_3 a_now_11 a_history_4)) fu_12 0 a_now_7)))))) f_edits a_now a_history)) ∧ (r_1 = 0 → (post (-1) f_edits a_now a_history)))) x1 2 12)
set_option maxHeartbeats 4000000 in
set_option maxRecDepth 100000 in
theorem l_X10_setModulus_34 {p : Program} {l : Launch} {e : Env} {s : State} {m : MethodId} {args : Array Value} {below : List Frame} {meth : Method} {c : Code} {G : qn_G} {A : Nat → Prop} {h_this h_now h_history h_over h_order h_colors h_row h_three h_seen h_group : Nat} {f_edits : Int32} {f_total : Int32} {a_history : Nat → Int32} {x2 : Int32} {post : Int32 → Int32 → (Nat → Int32) → (Nat → Int32) → Prop} {KL34 : (Nat → Int32) → Prop} (C0 : qn_C p m c cX10_setModulus 4 s args wsX10_setModulus RX10 meth (some .int)) (hE : qn_EV G s) (hA : ∀ q, s.heap.size ≤ q → A q) (hKc : ∀ (a_now : Nat → Int32), KL34 a_now → ∀ (H : Heap) (locs : List Loc) (ls : Array Slot), va_P G.1 vwCl (wd_X10_setModulus G h_this h_now h_history h_over h_order h_colors h_row h_three h_seen h_group f_edits f_total a_now a_history) H → va_D A (wd_X10_setModulus G h_this h_now h_history h_over h_order h_colors h_row h_three h_seen h_group f_edits f_total a_now a_history) → va_S A s.heap H locs → lv_has ls 4 [(2, .int x2)] → W p l e (headSpec wsX10_setModulus rm_X10_setModulus).room s m args below meth c H locs 0 0 (MQ below (qn_QI G (fun (r : Int32) (u : Int32 × (Nat → Int32) × (Nat → Int32)) => post r u.1 u.2.1 u.2.2) (fun u : Int32 × (Nat → Int32) × (Nat → Int32) => wd_X10_setModulus G h_this h_now h_history h_over h_order h_colors h_row h_three h_seen h_group (u.1) f_total (u.2.1) (u.2.2)) A) args s 0 0 A) (F0 m 56 ls [])) :
    ∀ (fu : Nat) (x3 : Int32) (a_now : Nat → Int32), wp_X10_setModulus_L34 KL34 fu x3 a_now → ∀ (H : Heap) (locs : List Loc) (ls : Array Slot), va_P G.1 vwCl (wd_X10_setModulus G h_this h_now h_history h_over h_order h_colors h_row h_three h_seen h_group f_edits f_total a_now a_history) H → va_D A (wd_X10_setModulus G h_this h_now h_history h_over h_order h_colors h_row h_three h_seen h_group f_edits f_total a_now a_history) → va_S A s.heap H locs → lv_has ls 4 [(0, .ref h_this), (2, .int x2), (3, .int x3)] → W p l e (headSpec wsX10_setModulus rm_X10_setModulus).room s m args below meth c H locs 0 0 (MQ below (qn_QI G (fun (r : Int32) (u : Int32 × (Nat → Int32) × (Nat → Int32)) => post r u.1 u.2.1 u.2.2) (fun u : Int32 × (Nat → Int32) × (Nat → Int32) => wd_X10_setModulus G h_this h_now h_history h_over h_order h_colors h_row h_three h_seen h_group (u.1) f_total (u.2.1) (u.2.2)) A) args s 0 0 A) (F0 m 34 ls []) := by
  obtain ⟨hx, hb, hml, hown, hts, hr, hlocks⟩ := id C0
  intro fu
  induction fu with
  | zero => intro x3 a_now hw; exact hw.elim
  | succ fu ih =>
    intro x3 a_now hw H locs ls hP hD hS hl
    refine lv_iload_n hx hb dX10_setModulus_34 rfl (lv_at hl 2 rfl) ?_
    refine lv_bipush (v := 36) hx hb dX10_setModulus_35 (by decide) ?_
    refine lv_icmp_ge (tgt := 56) hx hb dX10_setModulus_37 (by decide) (fun c_8 => ?_) (fun c_8 => ?_)
    · have hw := hw.1 c_8
      exact hKc a_now hw _ _ _ hP hD hS (lv_sub hl [1] rfl)
    · have hw := hw.2 c_8
      refine lv_aload_n hx hb dX10_setModulus_40 rfl (lv_at hl 0 rfl) ?_
      refine va_get (D := G.1) (ci := 10) (v := .ref h_now) (C := RX10) (T := TX10) (N := 11) hx hb hts in_X10_setModulus_X10 hown hE.1 hP 0 rfl rfl 0 (by decide) (hts (.fieldLink RX10 7 "QuandleColoringsModel" "now" "[I") lk_X10_setModulus_7) (fun _ h9 => h9) rfl dX10_setModulus_41 ?_
      refine lv_bipush (v := 36) hx hb dX10_setModulus_44 (by decide) ?_
      refine lv_iload_n hx hb dX10_setModulus_46 rfl (lv_at hl 2 rfl) ?_
      refine lv_iadd hx hb dX10_setModulus_47 ?_
      refine lv_iconst (v := 0) hx hb dX10_setModulus_48 (by decide) ?_
      have hin := hw.1
      have hw := hw.2
      obtain ⟨a_now_9, ea_now_9⟩ : ∃ y : Nat → Int32, y = upd a_now (36 + x3).toNatClampNeg 0 := ⟨_, rfl⟩
      have hw := hw a_now_9 ea_now_9
      refine va_iast hx hb hE.1 hP hD hS 1 0 rfl rfl hin dX10_setModulus_49 (fun H locs hP hD hS => ?_)
      rw [← ea_now_9] at hP hD
      have hP : va_P G.1 vwCl (wd_X10_setModulus G h_this h_now h_history h_over h_order h_colors h_row h_three h_seen h_group f_edits f_total a_now_9 a_history) H := hP
      have hD : va_D A (wd_X10_setModulus G h_this h_now h_history h_over h_order h_colors h_row h_three h_seen h_group f_edits f_total a_now_9 a_history) := hD
      obtain ⟨x3_10, ex3_10⟩ : ∃ y : Int32, y = x3 + 1 := ⟨_, rfl⟩
      have hw := hw x3_10 ex3_10
      refine lv_iinc (v := x3_10) (lv' := [(3, .int x3_10), (0, .ref h_this), (2, .int x2)]) hx hb dX10_setModulus_50 hl (k := 2) rfl (by rw [ex3_10]; rfl) (by decide) rfl (fun ls hl => ?_)
      refine lv_goto (tgt := 34) hx hb dX10_setModulus_53 (by decide) ?_
      exact ih x3_10 a_now_9 hw _ _ _ hP hD hS (lv_sub hl [1, 2, 0] rfl)
set_option maxHeartbeats 4000000 in
set_option maxRecDepth 100000 in
theorem c_X10_setModulus {l : Launch} (G : qn_G) (sz : Nat) (h_this h_now h_history h_over h_order h_colors h_row h_three h_seen h_group : Nat) (f_edits : Int32) (f_total : Int32) (a_now : Nat → Int32) (a_history : Nat → Int32) (x1 : Int32) {post : Int32 → Int32 → (Nat → Int32) → (Nat → Int32) → Prop} (hw : wp_X10_setModulus post f_edits a_now a_history x1) : Met l yX10_setModulus wsX10_setModulus rm_X10_setModulus (qn_PC G [.ref h_this, .int x1] sz (wd_X10_setModulus G h_this h_now h_history h_over h_order h_colors h_row h_three h_seen h_group f_edits f_total a_now a_history)) (qn_QI G (fun (r : Int32) (u : Int32 × (Nat → Int32) × (Nat → Int32)) => post r u.1 u.2.1 u.2.2) (fun u : Int32 × (Nat → Int32) × (Nat → Int32) => wd_X10_setModulus G h_this h_now h_history h_over h_order h_colors h_row h_three h_seen h_group (u.1) f_total (u.2.1) (u.2.2)) (va_A (wd_X10_setModulus G h_this h_now h_history h_over h_order h_colors h_row h_three h_seen h_group f_edits f_total a_now a_history) sz)) 0 0 (va_A (wd_X10_setModulus G h_this h_now h_history h_over h_order h_colors h_row h_three h_seen h_group f_edits f_total a_now a_history) sz) := by
  refine Met.ofW (cc := cX10_setModulus) (maxL := 4) (ret := (some .int)) (by decide) rfl ?_
  intro p e s m args below meth c s₁ B hml hv
  obtain ⟨rfl, hsz, hP, hE, hD0⟩ := hv
  have C0 : qn_C p m c cX10_setModulus 4 s _ wsX10_setModulus RX10 meth (some .int) := qn_C0 B hml
  obtain ⟨hx, hb, -, hown, hts, hr, hlocks⟩ := id C0
  subst hsz
  have hD := hD0.self (sz := s.heap.size)
  generalize hAe : va_A (wd_X10_setModulus G h_this h_now h_history h_over h_order h_colors h_row h_three h_seen h_group f_edits f_total a_now a_history) s.heap.size = A at hD ⊢
  have hA : ∀ q : Nat, s.heap.size ≤ q → A q := fun q h => by rw [← hAe]; exact Or.inr h
  clear hAe
  have hS : va_S A s.heap s.heap [] := va_S.rf
  have hl := lv_entry ([.ref h_this, .int x1]) (n := 4) (Nat.le_of_ble_eq_true rfl)
  rw [lg_entry_eq]
  generalize (lg_sl ([.ref h_this, .int x1]) ++ List.replicate (4 - (lg_sl ([.ref h_this, .int x1])).length) Slot.unset).toArray = ls at hl ⊢
  have hl : lv_has ls 4 [(0, .ref h_this), (1, .int x1)] := hl
  have hP : va_P G.1 vwCl (wd_X10_setModulus G h_this h_now h_history h_over h_order h_colors h_row h_three h_seen h_group f_edits f_total a_now a_history) s.heap := hP
  refine lv_iload_n hx hb dX10_setModulus_0 rfl (lv_at hl 1 rfl) ?_
  refine lv_iconst (v := 2) hx hb dX10_setModulus_1 (by decide) ?_
  refine lv_bipush (v := 12) hx hb dX10_setModulus_2 (by decide) ?_
  have hC9 : ([] : List Nat).map (fun i => (wd_X10_setModulus G h_this h_now h_history h_over h_order h_colors h_row h_three h_seen h_group f_edits f_total a_now a_history)[i]?) = (wd_X10_in G).map some := rfl
  refine qn_callI (wd := (fun u : Unit => wd_X10_setModulus G h_this h_now h_history h_over h_order h_colors h_row h_three h_seen h_group f_edits f_total a_now a_history)) [] (va_runS (As := [.int x1, .int 2, .int 12]) (rest := []) ⟨hx, hb, hml, hown, hts⟩ (c_X10_in G _ x1 2 12 hw) (va_cwS 3 hts gX10_setModulus_X10_in rfl rfl rfl (by decide +kernel) ⟨Nat.le_of_ble_eq_true rfl, Nat.le_of_ble_eq_true rfl⟩) (qn_preS hE hP hD [] hC9 (by decide +kernel)) rfl rfl hl.1 rfl (lv_room (Nat.le_of_ble_eq_true rfl)) dX10_setModulus_4 ⟨Nat.le_of_ble_eq_true rfl, Nat.le_of_ble_eq_true rfl⟩) hP hD hS hA hC9 [none, none, none] (M := 3) rfl (by decide +kernel) (fun _ => rfl) (fun _ => rfl) (fun r_1 _ H locs hw hP hD hS => ?_)
  try dsimp only at hw
  have hP : va_P G.1 vwCl (wd_X10_setModulus G h_this h_now h_history h_over h_order h_colors h_row h_three h_seen h_group f_edits f_total a_now a_history) H := hP
  have hD : va_D A (wd_X10_setModulus G h_this h_now h_history h_over h_order h_colors h_row h_three h_seen h_group f_edits f_total a_now a_history) := hD
  refine lv_if_ne (tgt := 12) hx hb dX10_setModulus_7 (by decide) (fun c_2 => ?_) (fun c_2 => ?_)
  · have hw := hw.1 c_2
    refine lv_aload_n hx hb dX10_setModulus_12 rfl (lv_at hl 0 rfl) ?_
    have hC9 : ([0, 1, 2]).map (fun i => (wd_X10_setModulus G h_this h_now h_history h_over h_order h_colors h_row h_three h_seen h_group f_edits f_total a_now a_history)[i]?) = (wd_X10_edit G h_this h_now h_history h_over h_order h_colors h_row h_three h_seen h_group f_edits f_total a_now a_history).map some := rfl
    refine qn_callV (wd := (fun u : Int32 × (Nat → Int32) => wd_X10_setModulus G h_this h_now h_history h_over h_order h_colors h_row h_three h_seen h_group (u.1) f_total a_now (u.2))) [0, 1, 2] (va_runV (As := []) (rest := []) ⟨hx, hb, hml, hown, hts⟩ (c_X10_edit G _ h_this h_now h_history h_over h_order h_colors h_row h_three h_seen h_group f_edits f_total a_now a_history hw) (cwV 0 hts gX10_setModulus_X10_edit rfl rfl rfl (by decide +kernel) ⟨Nat.le_of_ble_eq_true rfl, Nat.le_of_ble_eq_true rfl⟩) (qn_preV hE hP hD [0, 1, 2] hC9 (by decide +kernel) (ci := 10) rfl rfl) rfl rfl hl.1 rfl (lv_room (Nat.le_of_ble_eq_true rfl)) dX10_setModulus_13 ⟨Nat.le_of_ble_eq_true rfl, Nat.le_of_ble_eq_true rfl⟩) hP hD hS hA hC9 [some 0, some 1, some 2] (M := 3) rfl (by decide +kernel) (fun _ => rfl) (fun _ => rfl) (fun u_5 H locs hw hP hD hS => ?_)
    obtain ⟨f_edits_3, a_history_4⟩ := u_5
    try dsimp only at hw
    have hP : va_P G.1 vwCl (wd_X10_setModulus G h_this h_now h_history h_over h_order h_colors h_row h_three h_seen h_group f_edits_3 f_total a_now a_history_4) H := hP
    have hD : va_D A (wd_X10_setModulus G h_this h_now h_history h_over h_order h_colors h_row h_three h_seen h_group f_edits_3 f_total a_now a_history_4) := hD
    refine lv_aload_n hx hb dX10_setModulus_16 rfl (lv_at hl 0 rfl) ?_
    refine va_get (D := G.1) (ci := 10) (v := .ref h_now) (C := RX10) (T := TX10) (N := 11) hx hb hts in_X10_setModulus_X10 hown hE.1 hP 0 rfl rfl 0 (by decide) (hts (.fieldLink RX10 7 "QuandleColoringsModel" "now" "[I") lk_X10_setModulus_7) (fun _ h9 => h9) rfl dX10_setModulus_17 ?_
    refine lv_bipush (v := 87) hx hb dX10_setModulus_20 (by decide) ?_
    have hin := hw.1
    have hw := hw.2
    refine va_iald hx hb hE.1 hP 1 0 rfl rfl hin dX10_setModulus_22 ?_
    refine lv_topi (fun x2_6 ex2_6 => ?_)
    have hw := hw x2_6 ex2_6
    refine lv_istore_n (lv' := [(2, .int x2_6), (0, .ref h_this), (1, .int x1)]) hx hb dX10_setModulus_23 rfl hl (by decide) rfl (fun ls hl => ?_)
    refine lv_aload_n hx hb dX10_setModulus_24 rfl (lv_at hl 1 rfl) ?_
    refine va_get (D := G.1) (ci := 10) (v := .ref h_now) (C := RX10) (T := TX10) (N := 11) hx hb hts in_X10_setModulus_X10 hown hE.1 hP 0 rfl rfl 0 (by decide) (hts (.fieldLink RX10 7 "QuandleColoringsModel" "now" "[I") lk_X10_setModulus_7) (fun _ h9 => h9) rfl dX10_setModulus_25 ?_
    refine lv_bipush (v := 87) hx hb dX10_setModulus_28 (by decide) ?_
    refine lv_iload_n hx hb dX10_setModulus_30 rfl (lv_at hl 2 rfl) ?_
    have hin := hw.1
    have hw := hw.2
    obtain ⟨a_now_7, ea_now_7⟩ : ∃ y : Nat → Int32, y = upd a_now (87 : Int32).toNatClampNeg x1 := ⟨_, rfl⟩
    have hw := hw a_now_7 ea_now_7
    refine va_iast hx hb hE.1 hP hD hS 1 0 rfl rfl hin dX10_setModulus_31 (fun H locs hP hD hS => ?_)
    rw [← ea_now_7] at hP hD
    have hP : va_P G.1 vwCl (wd_X10_setModulus G h_this h_now h_history h_over h_order h_colors h_row h_three h_seen h_group f_edits_3 f_total a_now_7 a_history_4) H := hP
    have hD : va_D A (wd_X10_setModulus G h_this h_now h_history h_over h_order h_colors h_row h_three h_seen h_group f_edits_3 f_total a_now_7 a_history_4) := hD
    refine lv_iconst (v := 0) hx hb dX10_setModulus_32 (by decide) ?_
    refine lv_istore_n (lv' := [(3, .int 0), (2, .int x2_6), (0, .ref h_this), (1, .int x1)]) hx hb dX10_setModulus_33 rfl hl (by decide) rfl (fun ls hl => ?_)
    obtain ⟨fu_12, hw⟩ := hw
    refine l_X10_setModulus_34 (post := post) C0 hE hA (fun a_now_11 hw H locs ls hP hD hS hl => ?_) fu_12 0 a_now_7 hw _ _ _ hP hD hS (lv_sub hl [2, 1, 0] rfl)
    refine lv_iload_n hx hb dX10_setModulus_56 rfl (lv_at hl 0 rfl) ?_
    exact W.iret (v := x2_6) hx hb hr (fun t ht hW => ⟨⟨x2_6, (f_edits_3, a_now_11, a_history_4), rfl, hw, by rw [ht]; exact hP, hD⟩, hS.F ht⟩) hS.2.2 dX10_setModulus_57
  · have hw := hw.2 c_2
    refine lv_iconst (v := (-1)) hx hb dX10_setModulus_10 (by decide) ?_
    exact W.iret (v := (-1)) hx hb hr (fun t ht hW => ⟨⟨(-1), (f_edits, a_now, a_history), rfl, hw, by rw [ht]; exact hP, hD⟩, hS.F ht⟩) hS.2.2 dX10_setModulus_11
-- QuandleColoringsModel.setWeight(III)I
abbrev rm_X10_setWeight : Room := { frames := 2, cells := 0, slots := 0, locals := 43 }
abbrev wd_X10_setWeight (G : qn_G) (h_this h_now h_history h_over h_order h_colors h_row h_three h_seen h_group : Nat) (f_edits : Int32) (f_total : Int32) (a_now : Nat → Int32) (a_history : Nat → Int32) : va_W := [(h_this, .inr (10, [.ref h_now, .ref h_history, .int f_edits, .ref h_over, .ref h_order, .ref h_colors, .int f_total, .ref h_row, .ref h_three, .ref h_seen, .ref h_group])), (h_now, .inl (G.2.1, 88, .inl a_now)), (h_history, .inl (G.2.1, 440, .inl a_history))]
theorem in_X10_setWeight_X10 : ∀ w ∈ u_ws RX10 TX10 11, w ∈ wsX10_setWeight := by decide +kernel
theorem lk_X10_setWeight_7 : Cond.fieldLink RX10 7 "QuandleColoringsModel" "now" "[I" ∈ wsX10_setWeight := by decide +kernel
def wp_X10_setWeight (post : Int32 → Int32 → (Nat → Int32) → (Nat → Int32) → Prop) (f_edits : Int32) (a_now : Nat → Int32) (a_history : Nat → Int32) (x1 : Int32) (x2 : Int32) (x3 : Int32) : Prop := (wp_X10_isElement (fun (r_1 : Int32) => ((r_1 = 0 → (post (-1) f_edits a_now a_history)) ∧ (¬ r_1 = 0 → (wp_X10_isElement (fun (r_3 : Int32) => ((r_3 = 0 → (post (-1) f_edits a_now a_history)) ∧ (¬ r_3 = 0 → (vp_in 87 88 ∧ (wp_X10_in (fun (r_5 : Int32) => ((¬ r_5 = 0 → (wp_X10_edit (fun (f_edits_7 : Int32) (a_history_8 : Nat → Int32) => (wp_X10_weightOf (fun (r_10 : Int32) => (vp_in ((36 + (6 * x1)) + x2) 88 ∧ (∀ a_now_11 : Nat → Int32, a_now_11 = upd a_now ((36 + (6 * x1)) + x2).toNatClampNeg x3 → (post r_10 f_edits_7 a_now_11 a_history_8)))) a_now x1 x2)) f_edits a_now a_history)) ∧ (r_5 = 0 → (post (-1) f_edits a_now a_history)))) x3 0 ((a_now (87 : Int32).toNatClampNeg) - 1)))))) a_now x2)))) a_now x1)
set_option maxHeartbeats 4000000 in
set_option maxRecDepth 100000 in
theorem c_X10_setWeight {l : Launch} (G : qn_G) (sz : Nat) (h_this h_now h_history h_over h_order h_colors h_row h_three h_seen h_group : Nat) (f_edits : Int32) (f_total : Int32) (a_now : Nat → Int32) (a_history : Nat → Int32) (x1 : Int32) (x2 : Int32) (x3 : Int32) {post : Int32 → Int32 → (Nat → Int32) → (Nat → Int32) → Prop} (hw : wp_X10_setWeight post f_edits a_now a_history x1 x2 x3) : Met l yX10_setWeight wsX10_setWeight rm_X10_setWeight (qn_PC G [.ref h_this, .int x1, .int x2, .int x3] sz (wd_X10_setWeight G h_this h_now h_history h_over h_order h_colors h_row h_three h_seen h_group f_edits f_total a_now a_history)) (qn_QI G (fun (r : Int32) (u : Int32 × (Nat → Int32) × (Nat → Int32)) => post r u.1 u.2.1 u.2.2) (fun u : Int32 × (Nat → Int32) × (Nat → Int32) => wd_X10_setWeight G h_this h_now h_history h_over h_order h_colors h_row h_three h_seen h_group (u.1) f_total (u.2.1) (u.2.2)) (va_A (wd_X10_setWeight G h_this h_now h_history h_over h_order h_colors h_row h_three h_seen h_group f_edits f_total a_now a_history) sz)) 0 0 (va_A (wd_X10_setWeight G h_this h_now h_history h_over h_order h_colors h_row h_three h_seen h_group f_edits f_total a_now a_history) sz) := by
  refine Met.ofW (cc := cX10_setWeight) (maxL := 5) (ret := (some .int)) (by decide) rfl ?_
  intro p e s m args below meth c s₁ B hml hv
  obtain ⟨rfl, hsz, hP, hE, hD0⟩ := hv
  have C0 : qn_C p m c cX10_setWeight 5 s _ wsX10_setWeight RX10 meth (some .int) := qn_C0 B hml
  obtain ⟨hx, hb, -, hown, hts, hr, hlocks⟩ := id C0
  subst hsz
  have hD := hD0.self (sz := s.heap.size)
  generalize hAe : va_A (wd_X10_setWeight G h_this h_now h_history h_over h_order h_colors h_row h_three h_seen h_group f_edits f_total a_now a_history) s.heap.size = A at hD ⊢
  have hA : ∀ q : Nat, s.heap.size ≤ q → A q := fun q h => by rw [← hAe]; exact Or.inr h
  clear hAe
  have hS : va_S A s.heap s.heap [] := va_S.rf
  have hl := lv_entry ([.ref h_this, .int x1, .int x2, .int x3]) (n := 5) (Nat.le_of_ble_eq_true rfl)
  rw [lg_entry_eq]
  generalize (lg_sl ([.ref h_this, .int x1, .int x2, .int x3]) ++ List.replicate (5 - (lg_sl ([.ref h_this, .int x1, .int x2, .int x3])).length) Slot.unset).toArray = ls at hl ⊢
  have hl : lv_has ls 5 [(0, .ref h_this), (1, .int x1), (2, .int x2), (3, .int x3)] := hl
  have hP : va_P G.1 vwCl (wd_X10_setWeight G h_this h_now h_history h_over h_order h_colors h_row h_three h_seen h_group f_edits f_total a_now a_history) s.heap := hP
  refine lv_aload_n hx hb dX10_setWeight_0 rfl (lv_at hl 0 rfl) ?_
  refine lv_iload_n hx hb dX10_setWeight_1 rfl (lv_at hl 1 rfl) ?_
  have hC9 : ([0, 1]).map (fun i => (wd_X10_setWeight G h_this h_now h_history h_over h_order h_colors h_row h_three h_seen h_group f_edits f_total a_now a_history)[i]?) = (wd_X10_isElement G h_this h_now h_history h_over h_order h_colors h_row h_three h_seen h_group f_edits f_total a_now).map some := rfl
  refine qn_callI (wd := (fun u : Unit => wd_X10_setWeight G h_this h_now h_history h_over h_order h_colors h_row h_three h_seen h_group f_edits f_total a_now a_history)) [0, 1] (va_runV (As := [.int x1]) (rest := []) ⟨hx, hb, hml, hown, hts⟩ (c_X10_isElement G _ h_this h_now h_history h_over h_order h_colors h_row h_three h_seen h_group f_edits f_total a_now x1 hw) (cwV 1 hts gX10_setWeight_X10_isElement rfl rfl rfl (by decide +kernel) ⟨Nat.le_of_ble_eq_true rfl, Nat.le_of_ble_eq_true rfl⟩) (qn_preV hE hP hD [0, 1] hC9 (by decide +kernel) (ci := 10) rfl rfl) rfl rfl hl.1 rfl (lv_room (Nat.le_of_ble_eq_true rfl)) dX10_setWeight_2 ⟨Nat.le_of_ble_eq_true rfl, Nat.le_of_ble_eq_true rfl⟩) hP hD hS hA hC9 [some 0, some 1, none] (M := 3) rfl (by decide +kernel) (fun _ => rfl) (fun _ => rfl) (fun r_1 _ H locs hw hP hD hS => ?_)
  try dsimp only at hw
  have hP : va_P G.1 vwCl (wd_X10_setWeight G h_this h_now h_history h_over h_order h_colors h_row h_three h_seen h_group f_edits f_total a_now a_history) H := hP
  have hD : va_D A (wd_X10_setWeight G h_this h_now h_history h_over h_order h_colors h_row h_three h_seen h_group f_edits f_total a_now a_history) := hD
  refine lv_if_eq (tgt := 33) hx hb dX10_setWeight_5 (by decide) (fun c_2 => ?_) (fun c_2 => ?_)
  · have hw := hw.1 c_2
    refine lv_iconst (v := (-1)) hx hb dX10_setWeight_33 (by decide) ?_
    exact W.iret (v := (-1)) hx hb hr (fun t ht hW => ⟨⟨(-1), (f_edits, a_now, a_history), rfl, hw, by rw [ht]; exact hP, hD⟩, hS.F ht⟩) hS.2.2 dX10_setWeight_34
  · have hw := hw.2 c_2
    refine lv_aload_n hx hb dX10_setWeight_8 rfl (lv_at hl 0 rfl) ?_
    refine lv_iload_n hx hb dX10_setWeight_9 rfl (lv_at hl 2 rfl) ?_
    have hC9 : ([0, 1]).map (fun i => (wd_X10_setWeight G h_this h_now h_history h_over h_order h_colors h_row h_three h_seen h_group f_edits f_total a_now a_history)[i]?) = (wd_X10_isElement G h_this h_now h_history h_over h_order h_colors h_row h_three h_seen h_group f_edits f_total a_now).map some := rfl
    refine qn_callI (wd := (fun u : Unit => wd_X10_setWeight G h_this h_now h_history h_over h_order h_colors h_row h_three h_seen h_group f_edits f_total a_now a_history)) [0, 1] (va_runV (As := [.int x2]) (rest := []) ⟨hx, hb, hml, hown, hts⟩ (c_X10_isElement G _ h_this h_now h_history h_over h_order h_colors h_row h_three h_seen h_group f_edits f_total a_now x2 hw) (cwV 1 hts gX10_setWeight_X10_isElement rfl rfl rfl (by decide +kernel) ⟨Nat.le_of_ble_eq_true rfl, Nat.le_of_ble_eq_true rfl⟩) (qn_preV hE hP hD [0, 1] hC9 (by decide +kernel) (ci := 10) rfl rfl) rfl rfl hl.1 rfl (lv_room (Nat.le_of_ble_eq_true rfl)) dX10_setWeight_10 ⟨Nat.le_of_ble_eq_true rfl, Nat.le_of_ble_eq_true rfl⟩) hP hD hS hA hC9 [some 0, some 1, none] (M := 3) rfl (by decide +kernel) (fun _ => rfl) (fun _ => rfl) (fun r_3 _ H locs hw hP hD hS => ?_)
    try dsimp only at hw
    have hP : va_P G.1 vwCl (wd_X10_setWeight G h_this h_now h_history h_over h_order h_colors h_row h_three h_seen h_group f_edits f_total a_now a_history) H := hP
    have hD : va_D A (wd_X10_setWeight G h_this h_now h_history h_over h_order h_colors h_row h_three h_seen h_group f_edits f_total a_now a_history) := hD
    refine lv_if_eq (tgt := 33) hx hb dX10_setWeight_13 (by decide) (fun c_4 => ?_) (fun c_4 => ?_)
    · have hw := hw.1 c_4
      refine lv_iconst (v := (-1)) hx hb dX10_setWeight_33 (by decide) ?_
      exact W.iret (v := (-1)) hx hb hr (fun t ht hW => ⟨⟨(-1), (f_edits, a_now, a_history), rfl, hw, by rw [ht]; exact hP, hD⟩, hS.F ht⟩) hS.2.2 dX10_setWeight_34
    · have hw := hw.2 c_4
      refine lv_iload_n hx hb dX10_setWeight_16 rfl (lv_at hl 3 rfl) ?_
      refine lv_iconst (v := 0) hx hb dX10_setWeight_17 (by decide) ?_
      refine lv_aload_n hx hb dX10_setWeight_18 rfl (lv_at hl 0 rfl) ?_
      refine va_get (D := G.1) (ci := 10) (v := .ref h_now) (C := RX10) (T := TX10) (N := 11) hx hb hts in_X10_setWeight_X10 hown hE.1 hP 0 rfl rfl 0 (by decide) (hts (.fieldLink RX10 7 "QuandleColoringsModel" "now" "[I") lk_X10_setWeight_7) (fun _ h9 => h9) rfl dX10_setWeight_19 ?_
      refine lv_bipush (v := 87) hx hb dX10_setWeight_22 (by decide) ?_
      have hin := hw.1
      have hw := hw.2
      refine va_iald hx hb hE.1 hP 1 0 rfl rfl hin dX10_setWeight_24 ?_
      refine lv_iconst (v := 1) hx hb dX10_setWeight_25 (by decide) ?_
      refine lv_isub hx hb dX10_setWeight_26 ?_
      have hC9 : ([] : List Nat).map (fun i => (wd_X10_setWeight G h_this h_now h_history h_over h_order h_colors h_row h_three h_seen h_group f_edits f_total a_now a_history)[i]?) = (wd_X10_in G).map some := rfl
      refine qn_callI (wd := (fun u : Unit => wd_X10_setWeight G h_this h_now h_history h_over h_order h_colors h_row h_three h_seen h_group f_edits f_total a_now a_history)) [] (va_runS (As := [.int x3, .int 0, .int ((a_now (87 : Int32).toNatClampNeg) - 1)]) (rest := []) ⟨hx, hb, hml, hown, hts⟩ (c_X10_in G _ x3 0 ((a_now (87 : Int32).toNatClampNeg) - 1) hw) (va_cwS 3 hts gX10_setWeight_X10_in rfl rfl rfl (by decide +kernel) ⟨Nat.le_of_ble_eq_true rfl, Nat.le_of_ble_eq_true rfl⟩) (qn_preS hE hP hD [] hC9 (by decide +kernel)) rfl rfl hl.1 rfl (lv_room (Nat.le_of_ble_eq_true rfl)) dX10_setWeight_27 ⟨Nat.le_of_ble_eq_true rfl, Nat.le_of_ble_eq_true rfl⟩) hP hD hS hA hC9 [none, none, none] (M := 3) rfl (by decide +kernel) (fun _ => rfl) (fun _ => rfl) (fun r_5 _ H locs hw hP hD hS => ?_)
      try dsimp only at hw
      have hP : va_P G.1 vwCl (wd_X10_setWeight G h_this h_now h_history h_over h_order h_colors h_row h_three h_seen h_group f_edits f_total a_now a_history) H := hP
      have hD : va_D A (wd_X10_setWeight G h_this h_now h_history h_over h_order h_colors h_row h_three h_seen h_group f_edits f_total a_now a_history) := hD
      refine lv_if_ne (tgt := 35) hx hb dX10_setWeight_30 (by decide) (fun c_6 => ?_) (fun c_6 => ?_)
      · have hw := hw.1 c_6
        refine lv_aload_n hx hb dX10_setWeight_35 rfl (lv_at hl 0 rfl) ?_
        have hC9 : ([0, 1, 2]).map (fun i => (wd_X10_setWeight G h_this h_now h_history h_over h_order h_colors h_row h_three h_seen h_group f_edits f_total a_now a_history)[i]?) = (wd_X10_edit G h_this h_now h_history h_over h_order h_colors h_row h_three h_seen h_group f_edits f_total a_now a_history).map some := rfl
        refine qn_callV (wd := (fun u : Int32 × (Nat → Int32) => wd_X10_setWeight G h_this h_now h_history h_over h_order h_colors h_row h_three h_seen h_group (u.1) f_total a_now (u.2))) [0, 1, 2] (va_runV (As := []) (rest := []) ⟨hx, hb, hml, hown, hts⟩ (c_X10_edit G _ h_this h_now h_history h_over h_order h_colors h_row h_three h_seen h_group f_edits f_total a_now a_history hw) (cwV 0 hts gX10_setWeight_X10_edit rfl rfl rfl (by decide +kernel) ⟨Nat.le_of_ble_eq_true rfl, Nat.le_of_ble_eq_true rfl⟩) (qn_preV hE hP hD [0, 1, 2] hC9 (by decide +kernel) (ci := 10) rfl rfl) rfl rfl hl.1 rfl (lv_room (Nat.le_of_ble_eq_true rfl)) dX10_setWeight_36 ⟨Nat.le_of_ble_eq_true rfl, Nat.le_of_ble_eq_true rfl⟩) hP hD hS hA hC9 [some 0, some 1, some 2] (M := 3) rfl (by decide +kernel) (fun _ => rfl) (fun _ => rfl) (fun u_9 H locs hw hP hD hS => ?_)
        obtain ⟨f_edits_7, a_history_8⟩ := u_9
        try dsimp only at hw
        have hP : va_P G.1 vwCl (wd_X10_setWeight G h_this h_now h_history h_over h_order h_colors h_row h_three h_seen h_group f_edits_7 f_total a_now a_history_8) H := hP
        have hD : va_D A (wd_X10_setWeight G h_this h_now h_history h_over h_order h_colors h_row h_three h_seen h_group f_edits_7 f_total a_now a_history_8) := hD
        refine lv_aload_n hx hb dX10_setWeight_39 rfl (lv_at hl 0 rfl) ?_
        refine lv_iload_n hx hb dX10_setWeight_40 rfl (lv_at hl 1 rfl) ?_
        refine lv_iload_n hx hb dX10_setWeight_41 rfl (lv_at hl 2 rfl) ?_
        have hC9 : ([0, 1]).map (fun i => (wd_X10_setWeight G h_this h_now h_history h_over h_order h_colors h_row h_three h_seen h_group f_edits_7 f_total a_now a_history_8)[i]?) = (wd_X10_weightOf G h_this h_now h_history h_over h_order h_colors h_row h_three h_seen h_group f_edits_7 f_total a_now).map some := rfl
        refine qn_callI (wd := (fun u : Unit => wd_X10_setWeight G h_this h_now h_history h_over h_order h_colors h_row h_three h_seen h_group f_edits_7 f_total a_now a_history_8)) [0, 1] (va_runV (As := [.int x1, .int x2]) (rest := []) ⟨hx, hb, hml, hown, hts⟩ (c_X10_weightOf G _ h_this h_now h_history h_over h_order h_colors h_row h_three h_seen h_group f_edits_7 f_total a_now x1 x2 hw) (cwV 2 hts gX10_setWeight_X10_weightOf rfl rfl rfl (by decide +kernel) ⟨Nat.le_of_ble_eq_true rfl, Nat.le_of_ble_eq_true rfl⟩) (qn_preV hE hP hD [0, 1] hC9 (by decide +kernel) (ci := 10) rfl rfl) rfl rfl hl.1 rfl (lv_room (Nat.le_of_ble_eq_true rfl)) dX10_setWeight_42 ⟨Nat.le_of_ble_eq_true rfl, Nat.le_of_ble_eq_true rfl⟩) hP hD hS hA hC9 [some 0, some 1, none] (M := 3) rfl (by decide +kernel) (fun _ => rfl) (fun _ => rfl) (fun r_10 _ H locs hw hP hD hS => ?_)
        try dsimp only at hw
        have hP : va_P G.1 vwCl (wd_X10_setWeight G h_this h_now h_history h_over h_order h_colors h_row h_three h_seen h_group f_edits_7 f_total a_now a_history_8) H := hP
        have hD : va_D A (wd_X10_setWeight G h_this h_now h_history h_over h_order h_colors h_row h_three h_seen h_group f_edits_7 f_total a_now a_history_8) := hD
        refine lv_istore (lv' := [(4, .int r_10), (0, .ref h_this), (1, .int x1), (2, .int x2), (3, .int x3)]) hx hb dX10_setWeight_45 hl (by decide) rfl (fun ls hl => ?_)
        refine lv_aload_n hx hb dX10_setWeight_47 rfl (lv_at hl 1 rfl) ?_
        refine va_get (D := G.1) (ci := 10) (v := .ref h_now) (C := RX10) (T := TX10) (N := 11) hx hb hts in_X10_setWeight_X10 hown hE.1 hP 0 rfl rfl 0 (by decide) (hts (.fieldLink RX10 7 "QuandleColoringsModel" "now" "[I") lk_X10_setWeight_7) (fun _ h9 => h9) rfl dX10_setWeight_48 ?_
        refine lv_bipush (v := 36) hx hb dX10_setWeight_51 (by decide) ?_
        refine lv_bipush (v := 6) hx hb dX10_setWeight_53 (by decide) ?_
        refine lv_iload_n hx hb dX10_setWeight_55 rfl (lv_at hl 2 rfl) ?_
        refine lv_imul hx hb dX10_setWeight_56 ?_
        refine lv_iadd hx hb dX10_setWeight_57 ?_
        refine lv_iload_n hx hb dX10_setWeight_58 rfl (lv_at hl 3 rfl) ?_
        refine lv_iadd hx hb dX10_setWeight_59 ?_
        refine lv_iload_n hx hb dX10_setWeight_60 rfl (lv_at hl 4 rfl) ?_
        have hin := hw.1
        have hw := hw.2
        obtain ⟨a_now_11, ea_now_11⟩ : ∃ y : Nat → Int32, y = upd a_now ((36 + (6 * x1)) + x2).toNatClampNeg x3 := ⟨_, rfl⟩
        have hw := hw a_now_11 ea_now_11
        refine va_iast hx hb hE.1 hP hD hS 1 0 rfl rfl hin dX10_setWeight_61 (fun H locs hP hD hS => ?_)
        rw [← ea_now_11] at hP hD
        have hP : va_P G.1 vwCl (wd_X10_setWeight G h_this h_now h_history h_over h_order h_colors h_row h_three h_seen h_group f_edits_7 f_total a_now_11 a_history_8) H := hP
        have hD : va_D A (wd_X10_setWeight G h_this h_now h_history h_over h_order h_colors h_row h_three h_seen h_group f_edits_7 f_total a_now_11 a_history_8) := hD
        refine lv_iload hx hb dX10_setWeight_62 (lv_at hl 0 rfl) ?_
        exact W.iret (v := r_10) hx hb hr (fun t ht hW => ⟨⟨r_10, (f_edits_7, a_now_11, a_history_8), rfl, hw, by rw [ht]; exact hP, hD⟩, hS.F ht⟩) hS.2.2 dX10_setWeight_64
      · have hw := hw.2 c_6
        refine lv_iconst (v := (-1)) hx hb dX10_setWeight_33 (by decide) ?_
        exact W.iret (v := (-1)) hx hb hr (fun t ht hW => ⟨⟨(-1), (f_edits, a_now, a_history), rfl, hw, by rw [ht]; exact hP, hD⟩, hS.F ht⟩) hS.2.2 dX10_setWeight_34
-- QuandleColoringsModel.addCoboundary(II)I
abbrev rm_X10_addCoboundary : Room := { frames := 2, cells := 0, slots := 0, locals := 43 }
abbrev wd_X10_addCoboundary (G : qn_G) (h_this h_now h_history h_over h_order h_colors h_row h_three h_seen h_group : Nat) (f_edits : Int32) (f_total : Int32) (a_now : Nat → Int32) (a_history : Nat → Int32) : va_W := [(h_this, .inr (10, [.ref h_now, .ref h_history, .int f_edits, .ref h_over, .ref h_order, .ref h_colors, .int f_total, .ref h_row, .ref h_three, .ref h_seen, .ref h_group])), (h_now, .inl (G.2.1, 88, .inl a_now)), (h_history, .inl (G.2.1, 440, .inl a_history))]
theorem in_X10_addCoboundary_X10 : ∀ w ∈ u_ws RX10 TX10 11, w ∈ wsX10_addCoboundary := by decide +kernel
theorem lk_X10_addCoboundary_7 : Cond.fieldLink RX10 7 "QuandleColoringsModel" "now" "[I" ∈ wsX10_addCoboundary := by decide +kernel
def wp_X10_addCoboundary_J112 (BL51 : Int32 → Int32 → (Nat → Int32) → Prop) (x3 : Int32) (x4 : Int32) (x5 : Int32) (x6 : Int32) (z0 : Int32) (z1 : Int32) (a_now : Nat → Int32) : Prop := (vp_in 87 88 ∧ (¬ a_now (87 : Int32).toNatClampNeg = 0 ∧ (∀ z_14 : Int32, z_14 = (z0 + z1) - (z0 + z1) / (a_now (87 : Int32).toNatClampNeg) * (a_now (87 : Int32).toNatClampNeg) → (vp_in ((36 + (6 * x4)) + x5) 88 ∧ (∀ a_now_15 : Nat → Int32, a_now_15 = upd a_now ((36 + (6 * x4)) + x5).toNatClampNeg z_14 → ((¬ z_14 = x6 → (∀ x3_17 : Int32, x3_17 = x3 + 1 → (∀ x5_18 : Int32, x5_18 = x5 + 1 → (BL51 x3_17 x5_18 a_now_15)))) ∧ (z_14 = x6 → (∀ x3_19 : Int32, x3_19 = x3 + 0 → (∀ x5_20 : Int32, x5_20 = x5 + 1 → (BL51 x3_19 x5_20 a_now_15))))))))))
def wp_X10_addCoboundary_J86 (BL51 : Int32 → Int32 → (Nat → Int32) → Prop) (x1 : Int32) (x2 : Int32) (x3 : Int32) (x4 : Int32) (x5 : Int32) (x6 : Int32) (z0 : Int32) (z1 : Int32) (a_now : Nat → Int32) : Prop := (wp_X10_of (fun (r_12 : Int32) => ((¬ r_12 = x1 → (wp_X10_addCoboundary_J112 BL51 x3 x4 x5 x6 (z0 + z1) 0 a_now)) ∧ (r_12 = x1 → (vp_in 87 88 ∧ (wp_X10_addCoboundary_J112 BL51 x3 x4 x5 x6 (z0 + z1) ((a_now (87 : Int32).toNatClampNeg) - x2) a_now))))) a_now x4 x5)
def wp_X10_addCoboundary_L51 (KL51 : Int32 → (Nat → Int32) → Prop) (x1 : Int32) (x2 : Int32) (x4 : Int32) : Nat → Int32 → Int32 → (Nat → Int32) → Prop
  | 0 => fun _ _ _ => False
  | fu + 1 => fun x3 x5 a_now => (vp_in 84 88 ∧ (((a_now (84 : Int32).toNatClampNeg) ≤ x5 → (KL51 x3 a_now)) ∧ (¬ (a_now (84 : Int32).toNatClampNeg) ≤ x5 → (wp_X10_weightOf (fun (r_10 : Int32) => ((¬ x4 = x1 → (wp_X10_addCoboundary_J86 (wp_X10_addCoboundary_L51 KL51 x1 x2 x4 fu) x1 x2 x3 x4 x5 r_10 r_10 0 a_now)) ∧ (x4 = x1 → (wp_X10_addCoboundary_J86 (wp_X10_addCoboundary_L51 KL51 x1 x2 x4 fu) x1 x2 x3 x4 x5 r_10 r_10 x2 a_now)))) a_now x4 x5))))
def wp_X10_addCoboundary_L36 (KL36 : Int32 → (Nat → Int32) → Prop) (x1 : Int32) (x2 : Int32) : Nat → Int32 → Int32 → (Nat → Int32) → Prop
  | 0 => fun _ _ _ => False
  | fu + 1 => fun x3 x4 a_now => (vp_in 84 88 ∧ (((a_now (84 : Int32).toNatClampNeg) ≤ x4 → (KL36 x3 a_now)) ∧ (¬ (a_now (84 : Int32).toNatClampNeg) ≤ x4 → (∃ fu_73 : Nat, wp_X10_addCoboundary_L51 (fun (x3_70 : Int32) (a_now_71 : Nat → Int32) => (∀ x4_72 : Int32, x4_72 = x4 + 1 → ((wp_X10_addCoboundary_L36 KL36 x1 x2 fu) x3_70 x4_72 a_now_71))) x1 x2 x4 fu_73 x3 0 a_now))))
def wp_X10_addCoboundary (post : Int32 → Int32 → (Nat → Int32) → (Nat → Int32) → Prop) (f_edits : Int32) (a_now : Nat → Int32) (a_history : Nat → Int32) (x1 : Int32) (x2 : Int32) : Prop := (wp_X10_isElement (fun (r_1 : Int32) => ((r_1 = 0 → (post (-1) f_edits a_now a_history)) ∧ (¬ r_1 = 0 → (vp_in 87 88 ∧ (wp_X10_in (fun (r_3 : Int32) => ((¬ r_3 = 0 → (wp_X10_edit (fun (f_edits_5 : Int32) (a_history_6 : Nat → Int32) => (∃ fu_76 : Nat, wp_X10_addCoboundary_L36 (fun (x3_74 : Int32) (a_now_75 : Nat → Int32) => (post x3_74 f_edits_5 a_now_75 a_history_6)) x1 x2 fu_76 0 0 a_now)) f_edits a_now a_history)) ∧ (r_3 = 0 → (post (-1) f_edits a_now a_history)))) x2 0 ((a_now (87 : Int32).toNatClampNeg) - 1)))))) a_now x1)
set_option maxHeartbeats 4000000 in
set_option maxRecDepth 100000 in
theorem l_X10_addCoboundary_51 {p : Program} {l : Launch} {e : Env} {s : State} {m : MethodId} {args : Array Value} {below : List Frame} {meth : Method} {c : Code} {G : qn_G} {A : Nat → Prop} {h_this h_now h_history h_over h_order h_colors h_row h_three h_seen h_group : Nat} {f_edits : Int32} {f_total : Int32} {a_history : Nat → Int32} {x1 : Int32} {x2 : Int32} {x4 : Int32} {post : Int32 → Int32 → (Nat → Int32) → (Nat → Int32) → Prop} {KL51 : Int32 → (Nat → Int32) → Prop} (C0 : qn_C p m c cX10_addCoboundary 8 s args wsX10_addCoboundary RX10 meth (some .int)) (hE : qn_EV G s) (hA : ∀ q, s.heap.size ≤ q → A q) (hKc : ∀ (x3 : Int32) (a_now : Nat → Int32), KL51 x3 a_now → ∀ (H : Heap) (locs : List Loc) (ls : Array Slot), va_P G.1 vwCl (wd_X10_addCoboundary G h_this h_now h_history h_over h_order h_colors h_row h_three h_seen h_group f_edits f_total a_now a_history) H → va_D A (wd_X10_addCoboundary G h_this h_now h_history h_over h_order h_colors h_row h_three h_seen h_group f_edits f_total a_now a_history) → va_S A s.heap H locs → lv_has ls 8 [(0, .ref h_this), (1, .int x1), (2, .int x2), (3, .int x3), (4, .int x4)] → W p l e (headSpec wsX10_addCoboundary rm_X10_addCoboundary).room s m args below meth c H locs 0 0 (MQ below (qn_QI G (fun (r : Int32) (u : Int32 × (Nat → Int32) × (Nat → Int32)) => post r u.1 u.2.1 u.2.2) (fun u : Int32 × (Nat → Int32) × (Nat → Int32) => wd_X10_addCoboundary G h_this h_now h_history h_over h_order h_colors h_row h_three h_seen h_group (u.1) f_total (u.2.1) (u.2.2)) A) args s 0 0 A) (F0 m 162 ls [])) :
    ∀ (fu : Nat) (x3 : Int32) (x5 : Int32) (a_now : Nat → Int32), wp_X10_addCoboundary_L51 KL51 x1 x2 x4 fu x3 x5 a_now → ∀ (H : Heap) (locs : List Loc) (ls : Array Slot), va_P G.1 vwCl (wd_X10_addCoboundary G h_this h_now h_history h_over h_order h_colors h_row h_three h_seen h_group f_edits f_total a_now a_history) H → va_D A (wd_X10_addCoboundary G h_this h_now h_history h_over h_order h_colors h_row h_three h_seen h_group f_edits f_total a_now a_history) → va_S A s.heap H locs → lv_has ls 8 [(0, .ref h_this), (1, .int x1), (2, .int x2), (3, .int x3), (4, .int x4), (5, .int x5)] → W p l e (headSpec wsX10_addCoboundary rm_X10_addCoboundary).room s m args below meth c H locs 0 0 (MQ below (qn_QI G (fun (r : Int32) (u : Int32 × (Nat → Int32) × (Nat → Int32)) => post r u.1 u.2.1 u.2.2) (fun u : Int32 × (Nat → Int32) × (Nat → Int32) => wd_X10_addCoboundary G h_this h_now h_history h_over h_order h_colors h_row h_three h_seen h_group (u.1) f_total (u.2.1) (u.2.2)) A) args s 0 0 A) (F0 m 51 ls []) := by
  obtain ⟨hx, hb, hml, hown, hts, hr, hlocks⟩ := id C0
  intro fu
  induction fu with
  | zero => intro x3 x5 a_now hw; exact hw.elim
  | succ fu ih =>
    intro x3 x5 a_now hw H locs ls hP hD hS hl
    refine lv_iload hx hb dX10_addCoboundary_51 (lv_at hl 5 rfl) ?_
    refine lv_aload_n hx hb dX10_addCoboundary_53 rfl (lv_at hl 0 rfl) ?_
    refine va_get (D := G.1) (ci := 10) (v := .ref h_now) (C := RX10) (T := TX10) (N := 11) hx hb hts in_X10_addCoboundary_X10 hown hE.1 hP 0 rfl rfl 0 (by decide) (hts (.fieldLink RX10 7 "QuandleColoringsModel" "now" "[I") lk_X10_addCoboundary_7) (fun _ h9 => h9) rfl dX10_addCoboundary_54 ?_
    refine lv_bipush (v := 84) hx hb dX10_addCoboundary_57 (by decide) ?_
    have hin := hw.1
    have hw := hw.2
    refine va_iald hx hb hE.1 hP 1 0 rfl rfl hin dX10_addCoboundary_59 ?_
    refine lv_icmp_ge (tgt := 162) hx hb dX10_addCoboundary_60 (by decide) (fun c_9 => ?_) (fun c_9 => ?_)
    · have hw := hw.1 c_9
      exact hKc x3 a_now hw _ _ _ hP hD hS (lv_sub hl [0, 1, 2, 3, 4] rfl)
    · have hw := hw.2 c_9
      refine lv_aload_n hx hb dX10_addCoboundary_63 rfl (lv_at hl 0 rfl) ?_
      refine lv_iload hx hb dX10_addCoboundary_64 (lv_at hl 4 rfl) ?_
      refine lv_iload hx hb dX10_addCoboundary_66 (lv_at hl 5 rfl) ?_
      have hC9 : ([0, 1]).map (fun i => (wd_X10_addCoboundary G h_this h_now h_history h_over h_order h_colors h_row h_three h_seen h_group f_edits f_total a_now a_history)[i]?) = (wd_X10_weightOf G h_this h_now h_history h_over h_order h_colors h_row h_three h_seen h_group f_edits f_total a_now).map some := rfl
      refine qn_callI (wd := (fun u : Unit => wd_X10_addCoboundary G h_this h_now h_history h_over h_order h_colors h_row h_three h_seen h_group f_edits f_total a_now a_history)) [0, 1] (va_runV (As := [.int x4, .int x5]) (rest := []) ⟨hx, hb, hml, hown, hts⟩ (c_X10_weightOf G _ h_this h_now h_history h_over h_order h_colors h_row h_three h_seen h_group f_edits f_total a_now x4 x5 hw) (cwV 2 hts gX10_addCoboundary_X10_weightOf rfl rfl rfl (by decide +kernel) ⟨Nat.le_of_ble_eq_true rfl, Nat.le_of_ble_eq_true rfl⟩) (qn_preV hE hP hD [0, 1] hC9 (by decide +kernel) (ci := 10) rfl rfl) rfl rfl hl.1 rfl (lv_room (Nat.le_of_ble_eq_true rfl)) dX10_addCoboundary_68 ⟨Nat.le_of_ble_eq_true rfl, Nat.le_of_ble_eq_true rfl⟩) hP hD hS hA hC9 [some 0, some 1, none] (M := 3) rfl (by decide +kernel) (fun _ => rfl) (fun _ => rfl) (fun r_10 _ H locs hw hP hD hS => ?_)
      try dsimp only at hw
      have hP : va_P G.1 vwCl (wd_X10_addCoboundary G h_this h_now h_history h_over h_order h_colors h_row h_three h_seen h_group f_edits f_total a_now a_history) H := hP
      have hD : va_D A (wd_X10_addCoboundary G h_this h_now h_history h_over h_order h_colors h_row h_three h_seen h_group f_edits f_total a_now a_history) := hD
      refine lv_istore (lv' := [(6, .int r_10), (0, .ref h_this), (1, .int x1), (2, .int x2), (3, .int x3), (4, .int x4), (5, .int x5)]) hx hb dX10_addCoboundary_71 hl (by decide) rfl (fun ls hl => ?_)
      refine lv_iload hx hb dX10_addCoboundary_73 (lv_at hl 0 rfl) ?_
      refine lv_iload hx hb dX10_addCoboundary_75 (lv_at hl 5 rfl) ?_
      refine lv_iload_n hx hb dX10_addCoboundary_77 rfl (lv_at hl 2 rfl) ?_
      refine lv_icmp_ne (tgt := 85) hx hb dX10_addCoboundary_78 (by decide) (fun c_11 => ?_) (fun c_11 => ?_)
      · have hw := hw.1 c_11
        refine lv_iconst (v := 0) hx hb dX10_addCoboundary_85 (by decide) ?_
        refine lv_iadd hx hb dX10_addCoboundary_86 ?_
        refine lv_aload_n hx hb dX10_addCoboundary_87 rfl (lv_at hl 1 rfl) ?_
        refine lv_iload hx hb dX10_addCoboundary_88 (lv_at hl 5 rfl) ?_
        refine lv_iload hx hb dX10_addCoboundary_90 (lv_at hl 6 rfl) ?_
        have hC9 : ([0, 1]).map (fun i => (wd_X10_addCoboundary G h_this h_now h_history h_over h_order h_colors h_row h_three h_seen h_group f_edits f_total a_now a_history)[i]?) = (wd_X10_of G h_this h_now h_history h_over h_order h_colors h_row h_three h_seen h_group f_edits f_total a_now).map some := rfl
        refine qn_callI (wd := (fun u : Unit => wd_X10_addCoboundary G h_this h_now h_history h_over h_order h_colors h_row h_three h_seen h_group f_edits f_total a_now a_history)) [0, 1] (va_runV (As := [.int x4, .int x5]) (rest := [.int (r_10 + 0)]) ⟨hx, hb, hml, hown, hts⟩ (c_X10_of G _ h_this h_now h_history h_over h_order h_colors h_row h_three h_seen h_group f_edits f_total a_now x4 x5 hw) (cwV 2 hts gX10_addCoboundary_X10_of rfl rfl rfl (by decide +kernel) ⟨Nat.le_of_ble_eq_true rfl, Nat.le_of_ble_eq_true rfl⟩) (qn_preV hE hP hD [0, 1] hC9 (by decide +kernel) (ci := 10) rfl rfl) rfl rfl hl.1 rfl (lv_room (Nat.le_of_ble_eq_true rfl)) dX10_addCoboundary_92 ⟨Nat.le_of_ble_eq_true rfl, Nat.le_of_ble_eq_true rfl⟩) hP hD hS hA hC9 [some 0, some 1, none] (M := 3) rfl (by decide +kernel) (fun _ => rfl) (fun _ => rfl) (fun r_36 _ H locs hw hP hD hS => ?_)
        try dsimp only at hw
        have hP : va_P G.1 vwCl (wd_X10_addCoboundary G h_this h_now h_history h_over h_order h_colors h_row h_three h_seen h_group f_edits f_total a_now a_history) H := hP
        have hD : va_D A (wd_X10_addCoboundary G h_this h_now h_history h_over h_order h_colors h_row h_three h_seen h_group f_edits f_total a_now a_history) := hD
        refine lv_iload_n hx hb dX10_addCoboundary_95 rfl (lv_at hl 2 rfl) ?_
        refine lv_icmp_ne (tgt := 111) hx hb dX10_addCoboundary_96 (by decide) (fun c_37 => ?_) (fun c_37 => ?_)
        · have hw := hw.1 c_37
          refine lv_iconst (v := 0) hx hb dX10_addCoboundary_111 (by decide) ?_
          refine lv_iadd hx hb dX10_addCoboundary_112 ?_
          refine lv_aload_n hx hb dX10_addCoboundary_113 rfl (lv_at hl 1 rfl) ?_
          refine va_get (D := G.1) (ci := 10) (v := .ref h_now) (C := RX10) (T := TX10) (N := 11) hx hb hts in_X10_addCoboundary_X10 hown hE.1 hP 0 rfl rfl 0 (by decide) (hts (.fieldLink RX10 7 "QuandleColoringsModel" "now" "[I") lk_X10_addCoboundary_7) (fun _ h9 => h9) rfl dX10_addCoboundary_114 ?_
          refine lv_bipush (v := 87) hx hb dX10_addCoboundary_117 (by decide) ?_
          have hin := hw.1
          have hw := hw.2
          refine va_iald hx hb hE.1 hP 1 0 rfl rfl hin dX10_addCoboundary_119 ?_
          have hne := hw.1
          have hw := hw.2
          refine lv_irem hx hb dX10_addCoboundary_120 hne ?_
          refine lv_topi (fun z_38 ez_38 => ?_)
          have hw := hw z_38 ez_38
          refine lv_istore (lv' := [(7, .int z_38), (6, .int r_10), (0, .ref h_this), (1, .int x1), (2, .int x2), (3, .int x3), (4, .int x4), (5, .int x5)]) hx hb dX10_addCoboundary_121 hl (by decide) rfl (fun ls hl => ?_)
          refine lv_aload_n hx hb dX10_addCoboundary_123 rfl (lv_at hl 2 rfl) ?_
          refine va_get (D := G.1) (ci := 10) (v := .ref h_now) (C := RX10) (T := TX10) (N := 11) hx hb hts in_X10_addCoboundary_X10 hown hE.1 hP 0 rfl rfl 0 (by decide) (hts (.fieldLink RX10 7 "QuandleColoringsModel" "now" "[I") lk_X10_addCoboundary_7) (fun _ h9 => h9) rfl dX10_addCoboundary_124 ?_
          refine lv_bipush (v := 36) hx hb dX10_addCoboundary_127 (by decide) ?_
          refine lv_bipush (v := 6) hx hb dX10_addCoboundary_129 (by decide) ?_
          refine lv_iload hx hb dX10_addCoboundary_131 (lv_at hl 6 rfl) ?_
          refine lv_imul hx hb dX10_addCoboundary_133 ?_
          refine lv_iadd hx hb dX10_addCoboundary_134 ?_
          refine lv_iload hx hb dX10_addCoboundary_135 (lv_at hl 7 rfl) ?_
          refine lv_iadd hx hb dX10_addCoboundary_137 ?_
          refine lv_iload hx hb dX10_addCoboundary_138 (lv_at hl 0 rfl) ?_
          have hin := hw.1
          have hw := hw.2
          obtain ⟨a_now_39, ea_now_39⟩ : ∃ y : Nat → Int32, y = upd a_now ((36 + (6 * x4)) + x5).toNatClampNeg z_38 := ⟨_, rfl⟩
          have hw := hw a_now_39 ea_now_39
          refine va_iast hx hb hE.1 hP hD hS 1 0 rfl rfl hin dX10_addCoboundary_140 (fun H locs hP hD hS => ?_)
          rw [← ea_now_39] at hP hD
          have hP : va_P G.1 vwCl (wd_X10_addCoboundary G h_this h_now h_history h_over h_order h_colors h_row h_three h_seen h_group f_edits f_total a_now_39 a_history) H := hP
          have hD : va_D A (wd_X10_addCoboundary G h_this h_now h_history h_over h_order h_colors h_row h_three h_seen h_group f_edits f_total a_now_39 a_history) := hD
          refine lv_iload_n hx hb dX10_addCoboundary_141 rfl (lv_at hl 5 rfl) ?_
          refine lv_iload hx hb dX10_addCoboundary_142 (lv_at hl 0 rfl) ?_
          refine lv_iload hx hb dX10_addCoboundary_144 (lv_at hl 1 rfl) ?_
          refine lv_icmp_ne (tgt := 153) hx hb dX10_addCoboundary_146 (by decide) (fun c_40 => ?_) (fun c_40 => ?_)
          · have hw := hw.1 c_40
            refine lv_iconst (v := 1) hx hb dX10_addCoboundary_153 (by decide) ?_
            refine lv_iadd hx hb dX10_addCoboundary_154 ?_
            refine lv_topi (fun x3_41 ex3_41 => ?_)
            have hw := hw x3_41 ex3_41
            refine lv_istore_n (lv' := [(3, .int x3_41), (7, .int z_38), (6, .int r_10), (0, .ref h_this), (1, .int x1), (2, .int x2), (4, .int x4), (5, .int x5)]) hx hb dX10_addCoboundary_155 rfl hl (by decide) rfl (fun ls hl => ?_)
            obtain ⟨x5_42, ex5_42⟩ : ∃ y : Int32, y = x5 + 1 := ⟨_, rfl⟩
            have hw := hw x5_42 ex5_42
            refine lv_iinc (v := x5_42) (lv' := [(5, .int x5_42), (3, .int x3_41), (7, .int z_38), (6, .int r_10), (0, .ref h_this), (1, .int x1), (2, .int x2), (4, .int x4)]) hx hb dX10_addCoboundary_156 hl (k := 7) rfl (by rw [ex5_42]; rfl) (by decide) rfl (fun ls hl => ?_)
            refine lv_goto (tgt := 51) hx hb dX10_addCoboundary_159 (by decide) ?_
            exact ih x3_41 x5_42 a_now_39 hw _ _ _ hP hD hS (lv_sub hl [4, 5, 6, 1, 7, 0] rfl)
          · have hw := hw.2 c_40
            refine lv_iconst (v := 0) hx hb dX10_addCoboundary_149 (by decide) ?_
            refine lv_goto (tgt := 154) hx hb dX10_addCoboundary_150 (by decide) ?_
            refine lv_iadd hx hb dX10_addCoboundary_154 ?_
            refine lv_topi (fun x3_43 ex3_43 => ?_)
            have hw := hw x3_43 ex3_43
            refine lv_istore_n (lv' := [(3, .int x3_43), (7, .int z_38), (6, .int r_10), (0, .ref h_this), (1, .int x1), (2, .int x2), (4, .int x4), (5, .int x5)]) hx hb dX10_addCoboundary_155 rfl hl (by decide) rfl (fun ls hl => ?_)
            obtain ⟨x5_44, ex5_44⟩ : ∃ y : Int32, y = x5 + 1 := ⟨_, rfl⟩
            have hw := hw x5_44 ex5_44
            refine lv_iinc (v := x5_44) (lv' := [(5, .int x5_44), (3, .int x3_43), (7, .int z_38), (6, .int r_10), (0, .ref h_this), (1, .int x1), (2, .int x2), (4, .int x4)]) hx hb dX10_addCoboundary_156 hl (k := 7) rfl (by rw [ex5_44]; rfl) (by decide) rfl (fun ls hl => ?_)
            refine lv_goto (tgt := 51) hx hb dX10_addCoboundary_159 (by decide) ?_
            exact ih x3_43 x5_44 a_now_39 hw _ _ _ hP hD hS (lv_sub hl [4, 5, 6, 1, 7, 0] rfl)
        · have hw := hw.2 c_37
          refine lv_aload_n hx hb dX10_addCoboundary_99 rfl (lv_at hl 1 rfl) ?_
          refine va_get (D := G.1) (ci := 10) (v := .ref h_now) (C := RX10) (T := TX10) (N := 11) hx hb hts in_X10_addCoboundary_X10 hown hE.1 hP 0 rfl rfl 0 (by decide) (hts (.fieldLink RX10 7 "QuandleColoringsModel" "now" "[I") lk_X10_addCoboundary_7) (fun _ h9 => h9) rfl dX10_addCoboundary_100 ?_
          refine lv_bipush (v := 87) hx hb dX10_addCoboundary_103 (by decide) ?_
          have hin := hw.1
          have hw := hw.2
          refine va_iald hx hb hE.1 hP 1 0 rfl rfl hin dX10_addCoboundary_105 ?_
          refine lv_iload_n hx hb dX10_addCoboundary_106 rfl (lv_at hl 3 rfl) ?_
          refine lv_isub hx hb dX10_addCoboundary_107 ?_
          refine lv_goto (tgt := 112) hx hb dX10_addCoboundary_108 (by decide) ?_
          refine lv_topi (fun z_45 ez_45 => ?_)
          rw [← ez_45] at hw
          refine lv_iadd hx hb dX10_addCoboundary_112 ?_
          refine lv_aload_n hx hb dX10_addCoboundary_113 rfl (lv_at hl 1 rfl) ?_
          refine va_get (D := G.1) (ci := 10) (v := .ref h_now) (C := RX10) (T := TX10) (N := 11) hx hb hts in_X10_addCoboundary_X10 hown hE.1 hP 0 rfl rfl 0 (by decide) (hts (.fieldLink RX10 7 "QuandleColoringsModel" "now" "[I") lk_X10_addCoboundary_7) (fun _ h9 => h9) rfl dX10_addCoboundary_114 ?_
          refine lv_bipush (v := 87) hx hb dX10_addCoboundary_117 (by decide) ?_
          have hin := hw.1
          have hw := hw.2
          refine va_iald hx hb hE.1 hP 1 0 rfl rfl hin dX10_addCoboundary_119 ?_
          have hne := hw.1
          have hw := hw.2
          refine lv_irem hx hb dX10_addCoboundary_120 hne ?_
          refine lv_topi (fun z_46 ez_46 => ?_)
          have hw := hw z_46 ez_46
          refine lv_istore (lv' := [(7, .int z_46), (6, .int r_10), (0, .ref h_this), (1, .int x1), (2, .int x2), (3, .int x3), (4, .int x4), (5, .int x5)]) hx hb dX10_addCoboundary_121 hl (by decide) rfl (fun ls hl => ?_)
          refine lv_aload_n hx hb dX10_addCoboundary_123 rfl (lv_at hl 2 rfl) ?_
          refine va_get (D := G.1) (ci := 10) (v := .ref h_now) (C := RX10) (T := TX10) (N := 11) hx hb hts in_X10_addCoboundary_X10 hown hE.1 hP 0 rfl rfl 0 (by decide) (hts (.fieldLink RX10 7 "QuandleColoringsModel" "now" "[I") lk_X10_addCoboundary_7) (fun _ h9 => h9) rfl dX10_addCoboundary_124 ?_
          refine lv_bipush (v := 36) hx hb dX10_addCoboundary_127 (by decide) ?_
          refine lv_bipush (v := 6) hx hb dX10_addCoboundary_129 (by decide) ?_
          refine lv_iload hx hb dX10_addCoboundary_131 (lv_at hl 6 rfl) ?_
          refine lv_imul hx hb dX10_addCoboundary_133 ?_
          refine lv_iadd hx hb dX10_addCoboundary_134 ?_
          refine lv_iload hx hb dX10_addCoboundary_135 (lv_at hl 7 rfl) ?_
          refine lv_iadd hx hb dX10_addCoboundary_137 ?_
          refine lv_iload hx hb dX10_addCoboundary_138 (lv_at hl 0 rfl) ?_
          have hin := hw.1
          have hw := hw.2
          obtain ⟨a_now_47, ea_now_47⟩ : ∃ y : Nat → Int32, y = upd a_now ((36 + (6 * x4)) + x5).toNatClampNeg z_46 := ⟨_, rfl⟩
          have hw := hw a_now_47 ea_now_47
          refine va_iast hx hb hE.1 hP hD hS 1 0 rfl rfl hin dX10_addCoboundary_140 (fun H locs hP hD hS => ?_)
          rw [← ea_now_47] at hP hD
          have hP : va_P G.1 vwCl (wd_X10_addCoboundary G h_this h_now h_history h_over h_order h_colors h_row h_three h_seen h_group f_edits f_total a_now_47 a_history) H := hP
          have hD : va_D A (wd_X10_addCoboundary G h_this h_now h_history h_over h_order h_colors h_row h_three h_seen h_group f_edits f_total a_now_47 a_history) := hD
          refine lv_iload_n hx hb dX10_addCoboundary_141 rfl (lv_at hl 5 rfl) ?_
          refine lv_iload hx hb dX10_addCoboundary_142 (lv_at hl 0 rfl) ?_
          refine lv_iload hx hb dX10_addCoboundary_144 (lv_at hl 1 rfl) ?_
          refine lv_icmp_ne (tgt := 153) hx hb dX10_addCoboundary_146 (by decide) (fun c_48 => ?_) (fun c_48 => ?_)
          · have hw := hw.1 c_48
            refine lv_iconst (v := 1) hx hb dX10_addCoboundary_153 (by decide) ?_
            refine lv_iadd hx hb dX10_addCoboundary_154 ?_
            refine lv_topi (fun x3_49 ex3_49 => ?_)
            have hw := hw x3_49 ex3_49
            refine lv_istore_n (lv' := [(3, .int x3_49), (7, .int z_46), (6, .int r_10), (0, .ref h_this), (1, .int x1), (2, .int x2), (4, .int x4), (5, .int x5)]) hx hb dX10_addCoboundary_155 rfl hl (by decide) rfl (fun ls hl => ?_)
            obtain ⟨x5_50, ex5_50⟩ : ∃ y : Int32, y = x5 + 1 := ⟨_, rfl⟩
            have hw := hw x5_50 ex5_50
            refine lv_iinc (v := x5_50) (lv' := [(5, .int x5_50), (3, .int x3_49), (7, .int z_46), (6, .int r_10), (0, .ref h_this), (1, .int x1), (2, .int x2), (4, .int x4)]) hx hb dX10_addCoboundary_156 hl (k := 7) rfl (by rw [ex5_50]; rfl) (by decide) rfl (fun ls hl => ?_)
            refine lv_goto (tgt := 51) hx hb dX10_addCoboundary_159 (by decide) ?_
            exact ih x3_49 x5_50 a_now_47 hw _ _ _ hP hD hS (lv_sub hl [4, 5, 6, 1, 7, 0] rfl)
          · have hw := hw.2 c_48
            refine lv_iconst (v := 0) hx hb dX10_addCoboundary_149 (by decide) ?_
            refine lv_goto (tgt := 154) hx hb dX10_addCoboundary_150 (by decide) ?_
            refine lv_iadd hx hb dX10_addCoboundary_154 ?_
            refine lv_topi (fun x3_51 ex3_51 => ?_)
            have hw := hw x3_51 ex3_51
            refine lv_istore_n (lv' := [(3, .int x3_51), (7, .int z_46), (6, .int r_10), (0, .ref h_this), (1, .int x1), (2, .int x2), (4, .int x4), (5, .int x5)]) hx hb dX10_addCoboundary_155 rfl hl (by decide) rfl (fun ls hl => ?_)
            obtain ⟨x5_52, ex5_52⟩ : ∃ y : Int32, y = x5 + 1 := ⟨_, rfl⟩
            have hw := hw x5_52 ex5_52
            refine lv_iinc (v := x5_52) (lv' := [(5, .int x5_52), (3, .int x3_51), (7, .int z_46), (6, .int r_10), (0, .ref h_this), (1, .int x1), (2, .int x2), (4, .int x4)]) hx hb dX10_addCoboundary_156 hl (k := 7) rfl (by rw [ex5_52]; rfl) (by decide) rfl (fun ls hl => ?_)
            refine lv_goto (tgt := 51) hx hb dX10_addCoboundary_159 (by decide) ?_
            exact ih x3_51 x5_52 a_now_47 hw _ _ _ hP hD hS (lv_sub hl [4, 5, 6, 1, 7, 0] rfl)
      · have hw := hw.2 c_11
        refine lv_iload_n hx hb dX10_addCoboundary_81 rfl (lv_at hl 3 rfl) ?_
        refine lv_goto (tgt := 86) hx hb dX10_addCoboundary_82 (by decide) ?_
        refine lv_iadd hx hb dX10_addCoboundary_86 ?_
        refine lv_aload_n hx hb dX10_addCoboundary_87 rfl (lv_at hl 1 rfl) ?_
        refine lv_iload hx hb dX10_addCoboundary_88 (lv_at hl 5 rfl) ?_
        refine lv_iload hx hb dX10_addCoboundary_90 (lv_at hl 6 rfl) ?_
        have hC9 : ([0, 1]).map (fun i => (wd_X10_addCoboundary G h_this h_now h_history h_over h_order h_colors h_row h_three h_seen h_group f_edits f_total a_now a_history)[i]?) = (wd_X10_of G h_this h_now h_history h_over h_order h_colors h_row h_three h_seen h_group f_edits f_total a_now).map some := rfl
        refine qn_callI (wd := (fun u : Unit => wd_X10_addCoboundary G h_this h_now h_history h_over h_order h_colors h_row h_three h_seen h_group f_edits f_total a_now a_history)) [0, 1] (va_runV (As := [.int x4, .int x5]) (rest := [.int (r_10 + x2)]) ⟨hx, hb, hml, hown, hts⟩ (c_X10_of G _ h_this h_now h_history h_over h_order h_colors h_row h_three h_seen h_group f_edits f_total a_now x4 x5 hw) (cwV 2 hts gX10_addCoboundary_X10_of rfl rfl rfl (by decide +kernel) ⟨Nat.le_of_ble_eq_true rfl, Nat.le_of_ble_eq_true rfl⟩) (qn_preV hE hP hD [0, 1] hC9 (by decide +kernel) (ci := 10) rfl rfl) rfl rfl hl.1 rfl (lv_room (Nat.le_of_ble_eq_true rfl)) dX10_addCoboundary_92 ⟨Nat.le_of_ble_eq_true rfl, Nat.le_of_ble_eq_true rfl⟩) hP hD hS hA hC9 [some 0, some 1, none] (M := 3) rfl (by decide +kernel) (fun _ => rfl) (fun _ => rfl) (fun r_53 _ H locs hw hP hD hS => ?_)
        try dsimp only at hw
        have hP : va_P G.1 vwCl (wd_X10_addCoboundary G h_this h_now h_history h_over h_order h_colors h_row h_three h_seen h_group f_edits f_total a_now a_history) H := hP
        have hD : va_D A (wd_X10_addCoboundary G h_this h_now h_history h_over h_order h_colors h_row h_three h_seen h_group f_edits f_total a_now a_history) := hD
        refine lv_iload_n hx hb dX10_addCoboundary_95 rfl (lv_at hl 2 rfl) ?_
        refine lv_icmp_ne (tgt := 111) hx hb dX10_addCoboundary_96 (by decide) (fun c_54 => ?_) (fun c_54 => ?_)
        · have hw := hw.1 c_54
          refine lv_iconst (v := 0) hx hb dX10_addCoboundary_111 (by decide) ?_
          refine lv_iadd hx hb dX10_addCoboundary_112 ?_
          refine lv_aload_n hx hb dX10_addCoboundary_113 rfl (lv_at hl 1 rfl) ?_
          refine va_get (D := G.1) (ci := 10) (v := .ref h_now) (C := RX10) (T := TX10) (N := 11) hx hb hts in_X10_addCoboundary_X10 hown hE.1 hP 0 rfl rfl 0 (by decide) (hts (.fieldLink RX10 7 "QuandleColoringsModel" "now" "[I") lk_X10_addCoboundary_7) (fun _ h9 => h9) rfl dX10_addCoboundary_114 ?_
          refine lv_bipush (v := 87) hx hb dX10_addCoboundary_117 (by decide) ?_
          have hin := hw.1
          have hw := hw.2
          refine va_iald hx hb hE.1 hP 1 0 rfl rfl hin dX10_addCoboundary_119 ?_
          have hne := hw.1
          have hw := hw.2
          refine lv_irem hx hb dX10_addCoboundary_120 hne ?_
          refine lv_topi (fun z_55 ez_55 => ?_)
          have hw := hw z_55 ez_55
          refine lv_istore (lv' := [(7, .int z_55), (6, .int r_10), (0, .ref h_this), (1, .int x1), (2, .int x2), (3, .int x3), (4, .int x4), (5, .int x5)]) hx hb dX10_addCoboundary_121 hl (by decide) rfl (fun ls hl => ?_)
          refine lv_aload_n hx hb dX10_addCoboundary_123 rfl (lv_at hl 2 rfl) ?_
          refine va_get (D := G.1) (ci := 10) (v := .ref h_now) (C := RX10) (T := TX10) (N := 11) hx hb hts in_X10_addCoboundary_X10 hown hE.1 hP 0 rfl rfl 0 (by decide) (hts (.fieldLink RX10 7 "QuandleColoringsModel" "now" "[I") lk_X10_addCoboundary_7) (fun _ h9 => h9) rfl dX10_addCoboundary_124 ?_
          refine lv_bipush (v := 36) hx hb dX10_addCoboundary_127 (by decide) ?_
          refine lv_bipush (v := 6) hx hb dX10_addCoboundary_129 (by decide) ?_
          refine lv_iload hx hb dX10_addCoboundary_131 (lv_at hl 6 rfl) ?_
          refine lv_imul hx hb dX10_addCoboundary_133 ?_
          refine lv_iadd hx hb dX10_addCoboundary_134 ?_
          refine lv_iload hx hb dX10_addCoboundary_135 (lv_at hl 7 rfl) ?_
          refine lv_iadd hx hb dX10_addCoboundary_137 ?_
          refine lv_iload hx hb dX10_addCoboundary_138 (lv_at hl 0 rfl) ?_
          have hin := hw.1
          have hw := hw.2
          obtain ⟨a_now_56, ea_now_56⟩ : ∃ y : Nat → Int32, y = upd a_now ((36 + (6 * x4)) + x5).toNatClampNeg z_55 := ⟨_, rfl⟩
          have hw := hw a_now_56 ea_now_56
          refine va_iast hx hb hE.1 hP hD hS 1 0 rfl rfl hin dX10_addCoboundary_140 (fun H locs hP hD hS => ?_)
          rw [← ea_now_56] at hP hD
          have hP : va_P G.1 vwCl (wd_X10_addCoboundary G h_this h_now h_history h_over h_order h_colors h_row h_three h_seen h_group f_edits f_total a_now_56 a_history) H := hP
          have hD : va_D A (wd_X10_addCoboundary G h_this h_now h_history h_over h_order h_colors h_row h_three h_seen h_group f_edits f_total a_now_56 a_history) := hD
          refine lv_iload_n hx hb dX10_addCoboundary_141 rfl (lv_at hl 5 rfl) ?_
          refine lv_iload hx hb dX10_addCoboundary_142 (lv_at hl 0 rfl) ?_
          refine lv_iload hx hb dX10_addCoboundary_144 (lv_at hl 1 rfl) ?_
          refine lv_icmp_ne (tgt := 153) hx hb dX10_addCoboundary_146 (by decide) (fun c_57 => ?_) (fun c_57 => ?_)
          · have hw := hw.1 c_57
            refine lv_iconst (v := 1) hx hb dX10_addCoboundary_153 (by decide) ?_
            refine lv_iadd hx hb dX10_addCoboundary_154 ?_
            refine lv_topi (fun x3_58 ex3_58 => ?_)
            have hw := hw x3_58 ex3_58
            refine lv_istore_n (lv' := [(3, .int x3_58), (7, .int z_55), (6, .int r_10), (0, .ref h_this), (1, .int x1), (2, .int x2), (4, .int x4), (5, .int x5)]) hx hb dX10_addCoboundary_155 rfl hl (by decide) rfl (fun ls hl => ?_)
            obtain ⟨x5_59, ex5_59⟩ : ∃ y : Int32, y = x5 + 1 := ⟨_, rfl⟩
            have hw := hw x5_59 ex5_59
            refine lv_iinc (v := x5_59) (lv' := [(5, .int x5_59), (3, .int x3_58), (7, .int z_55), (6, .int r_10), (0, .ref h_this), (1, .int x1), (2, .int x2), (4, .int x4)]) hx hb dX10_addCoboundary_156 hl (k := 7) rfl (by rw [ex5_59]; rfl) (by decide) rfl (fun ls hl => ?_)
            refine lv_goto (tgt := 51) hx hb dX10_addCoboundary_159 (by decide) ?_
            exact ih x3_58 x5_59 a_now_56 hw _ _ _ hP hD hS (lv_sub hl [4, 5, 6, 1, 7, 0] rfl)
          · have hw := hw.2 c_57
            refine lv_iconst (v := 0) hx hb dX10_addCoboundary_149 (by decide) ?_
            refine lv_goto (tgt := 154) hx hb dX10_addCoboundary_150 (by decide) ?_
            refine lv_iadd hx hb dX10_addCoboundary_154 ?_
            refine lv_topi (fun x3_60 ex3_60 => ?_)
            have hw := hw x3_60 ex3_60
            refine lv_istore_n (lv' := [(3, .int x3_60), (7, .int z_55), (6, .int r_10), (0, .ref h_this), (1, .int x1), (2, .int x2), (4, .int x4), (5, .int x5)]) hx hb dX10_addCoboundary_155 rfl hl (by decide) rfl (fun ls hl => ?_)
            obtain ⟨x5_61, ex5_61⟩ : ∃ y : Int32, y = x5 + 1 := ⟨_, rfl⟩
            have hw := hw x5_61 ex5_61
            refine lv_iinc (v := x5_61) (lv' := [(5, .int x5_61), (3, .int x3_60), (7, .int z_55), (6, .int r_10), (0, .ref h_this), (1, .int x1), (2, .int x2), (4, .int x4)]) hx hb dX10_addCoboundary_156 hl (k := 7) rfl (by rw [ex5_61]; rfl) (by decide) rfl (fun ls hl => ?_)
            refine lv_goto (tgt := 51) hx hb dX10_addCoboundary_159 (by decide) ?_
            exact ih x3_60 x5_61 a_now_56 hw _ _ _ hP hD hS (lv_sub hl [4, 5, 6, 1, 7, 0] rfl)
        · have hw := hw.2 c_54
          refine lv_aload_n hx hb dX10_addCoboundary_99 rfl (lv_at hl 1 rfl) ?_
          refine va_get (D := G.1) (ci := 10) (v := .ref h_now) (C := RX10) (T := TX10) (N := 11) hx hb hts in_X10_addCoboundary_X10 hown hE.1 hP 0 rfl rfl 0 (by decide) (hts (.fieldLink RX10 7 "QuandleColoringsModel" "now" "[I") lk_X10_addCoboundary_7) (fun _ h9 => h9) rfl dX10_addCoboundary_100 ?_
          refine lv_bipush (v := 87) hx hb dX10_addCoboundary_103 (by decide) ?_
          have hin := hw.1
          have hw := hw.2
          refine va_iald hx hb hE.1 hP 1 0 rfl rfl hin dX10_addCoboundary_105 ?_
          refine lv_iload_n hx hb dX10_addCoboundary_106 rfl (lv_at hl 3 rfl) ?_
          refine lv_isub hx hb dX10_addCoboundary_107 ?_
          refine lv_goto (tgt := 112) hx hb dX10_addCoboundary_108 (by decide) ?_
          refine lv_topi (fun z_62 ez_62 => ?_)
          rw [← ez_62] at hw
          refine lv_iadd hx hb dX10_addCoboundary_112 ?_
          refine lv_aload_n hx hb dX10_addCoboundary_113 rfl (lv_at hl 1 rfl) ?_
          refine va_get (D := G.1) (ci := 10) (v := .ref h_now) (C := RX10) (T := TX10) (N := 11) hx hb hts in_X10_addCoboundary_X10 hown hE.1 hP 0 rfl rfl 0 (by decide) (hts (.fieldLink RX10 7 "QuandleColoringsModel" "now" "[I") lk_X10_addCoboundary_7) (fun _ h9 => h9) rfl dX10_addCoboundary_114 ?_
          refine lv_bipush (v := 87) hx hb dX10_addCoboundary_117 (by decide) ?_
          have hin := hw.1
          have hw := hw.2
          refine va_iald hx hb hE.1 hP 1 0 rfl rfl hin dX10_addCoboundary_119 ?_
          have hne := hw.1
          have hw := hw.2
          refine lv_irem hx hb dX10_addCoboundary_120 hne ?_
          refine lv_topi (fun z_63 ez_63 => ?_)
          have hw := hw z_63 ez_63
          refine lv_istore (lv' := [(7, .int z_63), (6, .int r_10), (0, .ref h_this), (1, .int x1), (2, .int x2), (3, .int x3), (4, .int x4), (5, .int x5)]) hx hb dX10_addCoboundary_121 hl (by decide) rfl (fun ls hl => ?_)
          refine lv_aload_n hx hb dX10_addCoboundary_123 rfl (lv_at hl 2 rfl) ?_
          refine va_get (D := G.1) (ci := 10) (v := .ref h_now) (C := RX10) (T := TX10) (N := 11) hx hb hts in_X10_addCoboundary_X10 hown hE.1 hP 0 rfl rfl 0 (by decide) (hts (.fieldLink RX10 7 "QuandleColoringsModel" "now" "[I") lk_X10_addCoboundary_7) (fun _ h9 => h9) rfl dX10_addCoboundary_124 ?_
          refine lv_bipush (v := 36) hx hb dX10_addCoboundary_127 (by decide) ?_
          refine lv_bipush (v := 6) hx hb dX10_addCoboundary_129 (by decide) ?_
          refine lv_iload hx hb dX10_addCoboundary_131 (lv_at hl 6 rfl) ?_
          refine lv_imul hx hb dX10_addCoboundary_133 ?_
          refine lv_iadd hx hb dX10_addCoboundary_134 ?_
          refine lv_iload hx hb dX10_addCoboundary_135 (lv_at hl 7 rfl) ?_
          refine lv_iadd hx hb dX10_addCoboundary_137 ?_
          refine lv_iload hx hb dX10_addCoboundary_138 (lv_at hl 0 rfl) ?_
          have hin := hw.1
          have hw := hw.2
          obtain ⟨a_now_64, ea_now_64⟩ : ∃ y : Nat → Int32, y = upd a_now ((36 + (6 * x4)) + x5).toNatClampNeg z_63 := ⟨_, rfl⟩
          have hw := hw a_now_64 ea_now_64
          refine va_iast hx hb hE.1 hP hD hS 1 0 rfl rfl hin dX10_addCoboundary_140 (fun H locs hP hD hS => ?_)
          rw [← ea_now_64] at hP hD
          have hP : va_P G.1 vwCl (wd_X10_addCoboundary G h_this h_now h_history h_over h_order h_colors h_row h_three h_seen h_group f_edits f_total a_now_64 a_history) H := hP
          have hD : va_D A (wd_X10_addCoboundary G h_this h_now h_history h_over h_order h_colors h_row h_three h_seen h_group f_edits f_total a_now_64 a_history) := hD
          refine lv_iload_n hx hb dX10_addCoboundary_141 rfl (lv_at hl 5 rfl) ?_
          refine lv_iload hx hb dX10_addCoboundary_142 (lv_at hl 0 rfl) ?_
          refine lv_iload hx hb dX10_addCoboundary_144 (lv_at hl 1 rfl) ?_
          refine lv_icmp_ne (tgt := 153) hx hb dX10_addCoboundary_146 (by decide) (fun c_65 => ?_) (fun c_65 => ?_)
          · have hw := hw.1 c_65
            refine lv_iconst (v := 1) hx hb dX10_addCoboundary_153 (by decide) ?_
            refine lv_iadd hx hb dX10_addCoboundary_154 ?_
            refine lv_topi (fun x3_66 ex3_66 => ?_)
            have hw := hw x3_66 ex3_66
            refine lv_istore_n (lv' := [(3, .int x3_66), (7, .int z_63), (6, .int r_10), (0, .ref h_this), (1, .int x1), (2, .int x2), (4, .int x4), (5, .int x5)]) hx hb dX10_addCoboundary_155 rfl hl (by decide) rfl (fun ls hl => ?_)
            obtain ⟨x5_67, ex5_67⟩ : ∃ y : Int32, y = x5 + 1 := ⟨_, rfl⟩
            have hw := hw x5_67 ex5_67
            refine lv_iinc (v := x5_67) (lv' := [(5, .int x5_67), (3, .int x3_66), (7, .int z_63), (6, .int r_10), (0, .ref h_this), (1, .int x1), (2, .int x2), (4, .int x4)]) hx hb dX10_addCoboundary_156 hl (k := 7) rfl (by rw [ex5_67]; rfl) (by decide) rfl (fun ls hl => ?_)
            refine lv_goto (tgt := 51) hx hb dX10_addCoboundary_159 (by decide) ?_
            exact ih x3_66 x5_67 a_now_64 hw _ _ _ hP hD hS (lv_sub hl [4, 5, 6, 1, 7, 0] rfl)
          · have hw := hw.2 c_65
            refine lv_iconst (v := 0) hx hb dX10_addCoboundary_149 (by decide) ?_
            refine lv_goto (tgt := 154) hx hb dX10_addCoboundary_150 (by decide) ?_
            refine lv_iadd hx hb dX10_addCoboundary_154 ?_
            refine lv_topi (fun x3_68 ex3_68 => ?_)
            have hw := hw x3_68 ex3_68
            refine lv_istore_n (lv' := [(3, .int x3_68), (7, .int z_63), (6, .int r_10), (0, .ref h_this), (1, .int x1), (2, .int x2), (4, .int x4), (5, .int x5)]) hx hb dX10_addCoboundary_155 rfl hl (by decide) rfl (fun ls hl => ?_)
            obtain ⟨x5_69, ex5_69⟩ : ∃ y : Int32, y = x5 + 1 := ⟨_, rfl⟩
            have hw := hw x5_69 ex5_69
            refine lv_iinc (v := x5_69) (lv' := [(5, .int x5_69), (3, .int x3_68), (7, .int z_63), (6, .int r_10), (0, .ref h_this), (1, .int x1), (2, .int x2), (4, .int x4)]) hx hb dX10_addCoboundary_156 hl (k := 7) rfl (by rw [ex5_69]; rfl) (by decide) rfl (fun ls hl => ?_)
            refine lv_goto (tgt := 51) hx hb dX10_addCoboundary_159 (by decide) ?_
            exact ih x3_68 x5_69 a_now_64 hw _ _ _ hP hD hS (lv_sub hl [4, 5, 6, 1, 7, 0] rfl)
set_option maxHeartbeats 4000000 in
set_option maxRecDepth 100000 in
theorem l_X10_addCoboundary_36 {p : Program} {l : Launch} {e : Env} {s : State} {m : MethodId} {args : Array Value} {below : List Frame} {meth : Method} {c : Code} {G : qn_G} {A : Nat → Prop} {h_this h_now h_history h_over h_order h_colors h_row h_three h_seen h_group : Nat} {f_edits : Int32} {f_total : Int32} {a_history : Nat → Int32} {x1 : Int32} {x2 : Int32} {post : Int32 → Int32 → (Nat → Int32) → (Nat → Int32) → Prop} {KL36 : Int32 → (Nat → Int32) → Prop} (C0 : qn_C p m c cX10_addCoboundary 8 s args wsX10_addCoboundary RX10 meth (some .int)) (hE : qn_EV G s) (hA : ∀ q, s.heap.size ≤ q → A q) (hKc : ∀ (x3 : Int32) (a_now : Nat → Int32), KL36 x3 a_now → ∀ (H : Heap) (locs : List Loc) (ls : Array Slot), va_P G.1 vwCl (wd_X10_addCoboundary G h_this h_now h_history h_over h_order h_colors h_row h_three h_seen h_group f_edits f_total a_now a_history) H → va_D A (wd_X10_addCoboundary G h_this h_now h_history h_over h_order h_colors h_row h_three h_seen h_group f_edits f_total a_now a_history) → va_S A s.heap H locs → lv_has ls 8 [(3, .int x3)] → W p l e (headSpec wsX10_addCoboundary rm_X10_addCoboundary).room s m args below meth c H locs 0 0 (MQ below (qn_QI G (fun (r : Int32) (u : Int32 × (Nat → Int32) × (Nat → Int32)) => post r u.1 u.2.1 u.2.2) (fun u : Int32 × (Nat → Int32) × (Nat → Int32) => wd_X10_addCoboundary G h_this h_now h_history h_over h_order h_colors h_row h_three h_seen h_group (u.1) f_total (u.2.1) (u.2.2)) A) args s 0 0 A) (F0 m 168 ls [])) :
    ∀ (fu : Nat) (x3 : Int32) (x4 : Int32) (a_now : Nat → Int32), wp_X10_addCoboundary_L36 KL36 x1 x2 fu x3 x4 a_now → ∀ (H : Heap) (locs : List Loc) (ls : Array Slot), va_P G.1 vwCl (wd_X10_addCoboundary G h_this h_now h_history h_over h_order h_colors h_row h_three h_seen h_group f_edits f_total a_now a_history) H → va_D A (wd_X10_addCoboundary G h_this h_now h_history h_over h_order h_colors h_row h_three h_seen h_group f_edits f_total a_now a_history) → va_S A s.heap H locs → lv_has ls 8 [(0, .ref h_this), (1, .int x1), (2, .int x2), (3, .int x3), (4, .int x4)] → W p l e (headSpec wsX10_addCoboundary rm_X10_addCoboundary).room s m args below meth c H locs 0 0 (MQ below (qn_QI G (fun (r : Int32) (u : Int32 × (Nat → Int32) × (Nat → Int32)) => post r u.1 u.2.1 u.2.2) (fun u : Int32 × (Nat → Int32) × (Nat → Int32) => wd_X10_addCoboundary G h_this h_now h_history h_over h_order h_colors h_row h_three h_seen h_group (u.1) f_total (u.2.1) (u.2.2)) A) args s 0 0 A) (F0 m 36 ls []) := by
  obtain ⟨hx, hb, hml, hown, hts, hr, hlocks⟩ := id C0
  intro fu
  induction fu with
  | zero => intro x3 x4 a_now hw; exact hw.elim
  | succ fu ih =>
    intro x3 x4 a_now hw H locs ls hP hD hS hl
    refine lv_iload hx hb dX10_addCoboundary_36 (lv_at hl 4 rfl) ?_
    refine lv_aload_n hx hb dX10_addCoboundary_38 rfl (lv_at hl 0 rfl) ?_
    refine va_get (D := G.1) (ci := 10) (v := .ref h_now) (C := RX10) (T := TX10) (N := 11) hx hb hts in_X10_addCoboundary_X10 hown hE.1 hP 0 rfl rfl 0 (by decide) (hts (.fieldLink RX10 7 "QuandleColoringsModel" "now" "[I") lk_X10_addCoboundary_7) (fun _ h9 => h9) rfl dX10_addCoboundary_39 ?_
    refine lv_bipush (v := 84) hx hb dX10_addCoboundary_42 (by decide) ?_
    have hin := hw.1
    have hw := hw.2
    refine va_iald hx hb hE.1 hP 1 0 rfl rfl hin dX10_addCoboundary_44 ?_
    refine lv_icmp_ge (tgt := 168) hx hb dX10_addCoboundary_45 (by decide) (fun c_8 => ?_) (fun c_8 => ?_)
    · have hw := hw.1 c_8
      exact hKc x3 a_now hw _ _ _ hP hD hS (lv_sub hl [3] rfl)
    · have hw := hw.2 c_8
      refine lv_iconst (v := 0) hx hb dX10_addCoboundary_48 (by decide) ?_
      refine lv_istore (lv' := [(5, .int 0), (0, .ref h_this), (1, .int x1), (2, .int x2), (3, .int x3), (4, .int x4)]) hx hb dX10_addCoboundary_49 hl (by decide) rfl (fun ls hl => ?_)
      obtain ⟨fu_73, hw⟩ := hw
      refine l_X10_addCoboundary_51 (post := post) C0 hE hA (fun x3_70 a_now_71 hw H locs ls hP hD hS hl => ?_) fu_73 x3 0 a_now hw _ _ _ hP hD hS (lv_sub hl [1, 2, 3, 4, 5, 0] rfl)
      obtain ⟨x4_72, ex4_72⟩ : ∃ y : Int32, y = x4 + 1 := ⟨_, rfl⟩
      have hw := hw x4_72 ex4_72
      refine lv_iinc (v := x4_72) (lv' := [(4, .int x4_72), (0, .ref h_this), (1, .int x1), (2, .int x2), (3, .int x3_70)]) hx hb dX10_addCoboundary_162 hl (k := 4) rfl (by rw [ex4_72]; rfl) (by decide) rfl (fun ls hl => ?_)
      refine lv_goto (tgt := 36) hx hb dX10_addCoboundary_165 (by decide) ?_
      exact ih x3_70 x4_72 a_now_71 hw _ _ _ hP hD hS (lv_sub hl [1, 2, 3, 4, 0] rfl)
set_option maxHeartbeats 4000000 in
set_option maxRecDepth 100000 in
theorem c_X10_addCoboundary {l : Launch} (G : qn_G) (sz : Nat) (h_this h_now h_history h_over h_order h_colors h_row h_three h_seen h_group : Nat) (f_edits : Int32) (f_total : Int32) (a_now : Nat → Int32) (a_history : Nat → Int32) (x1 : Int32) (x2 : Int32) {post : Int32 → Int32 → (Nat → Int32) → (Nat → Int32) → Prop} (hw : wp_X10_addCoboundary post f_edits a_now a_history x1 x2) : Met l yX10_addCoboundary wsX10_addCoboundary rm_X10_addCoboundary (qn_PC G [.ref h_this, .int x1, .int x2] sz (wd_X10_addCoboundary G h_this h_now h_history h_over h_order h_colors h_row h_three h_seen h_group f_edits f_total a_now a_history)) (qn_QI G (fun (r : Int32) (u : Int32 × (Nat → Int32) × (Nat → Int32)) => post r u.1 u.2.1 u.2.2) (fun u : Int32 × (Nat → Int32) × (Nat → Int32) => wd_X10_addCoboundary G h_this h_now h_history h_over h_order h_colors h_row h_three h_seen h_group (u.1) f_total (u.2.1) (u.2.2)) (va_A (wd_X10_addCoboundary G h_this h_now h_history h_over h_order h_colors h_row h_three h_seen h_group f_edits f_total a_now a_history) sz)) 0 0 (va_A (wd_X10_addCoboundary G h_this h_now h_history h_over h_order h_colors h_row h_three h_seen h_group f_edits f_total a_now a_history) sz) := by
  refine Met.ofW (cc := cX10_addCoboundary) (maxL := 8) (ret := (some .int)) (by decide) rfl ?_
  intro p e s m args below meth c s₁ B hml hv
  obtain ⟨rfl, hsz, hP, hE, hD0⟩ := hv
  have C0 : qn_C p m c cX10_addCoboundary 8 s _ wsX10_addCoboundary RX10 meth (some .int) := qn_C0 B hml
  obtain ⟨hx, hb, -, hown, hts, hr, hlocks⟩ := id C0
  subst hsz
  have hD := hD0.self (sz := s.heap.size)
  generalize hAe : va_A (wd_X10_addCoboundary G h_this h_now h_history h_over h_order h_colors h_row h_three h_seen h_group f_edits f_total a_now a_history) s.heap.size = A at hD ⊢
  have hA : ∀ q : Nat, s.heap.size ≤ q → A q := fun q h => by rw [← hAe]; exact Or.inr h
  clear hAe
  have hS : va_S A s.heap s.heap [] := va_S.rf
  have hl := lv_entry ([.ref h_this, .int x1, .int x2]) (n := 8) (Nat.le_of_ble_eq_true rfl)
  rw [lg_entry_eq]
  generalize (lg_sl ([.ref h_this, .int x1, .int x2]) ++ List.replicate (8 - (lg_sl ([.ref h_this, .int x1, .int x2])).length) Slot.unset).toArray = ls at hl ⊢
  have hl : lv_has ls 8 [(0, .ref h_this), (1, .int x1), (2, .int x2)] := hl
  have hP : va_P G.1 vwCl (wd_X10_addCoboundary G h_this h_now h_history h_over h_order h_colors h_row h_three h_seen h_group f_edits f_total a_now a_history) s.heap := hP
  refine lv_aload_n hx hb dX10_addCoboundary_0 rfl (lv_at hl 0 rfl) ?_
  refine lv_iload_n hx hb dX10_addCoboundary_1 rfl (lv_at hl 1 rfl) ?_
  have hC9 : ([0, 1]).map (fun i => (wd_X10_addCoboundary G h_this h_now h_history h_over h_order h_colors h_row h_three h_seen h_group f_edits f_total a_now a_history)[i]?) = (wd_X10_isElement G h_this h_now h_history h_over h_order h_colors h_row h_three h_seen h_group f_edits f_total a_now).map some := rfl
  refine qn_callI (wd := (fun u : Unit => wd_X10_addCoboundary G h_this h_now h_history h_over h_order h_colors h_row h_three h_seen h_group f_edits f_total a_now a_history)) [0, 1] (va_runV (As := [.int x1]) (rest := []) ⟨hx, hb, hml, hown, hts⟩ (c_X10_isElement G _ h_this h_now h_history h_over h_order h_colors h_row h_three h_seen h_group f_edits f_total a_now x1 hw) (cwV 1 hts gX10_addCoboundary_X10_isElement rfl rfl rfl (by decide +kernel) ⟨Nat.le_of_ble_eq_true rfl, Nat.le_of_ble_eq_true rfl⟩) (qn_preV hE hP hD [0, 1] hC9 (by decide +kernel) (ci := 10) rfl rfl) rfl rfl hl.1 rfl (lv_room (Nat.le_of_ble_eq_true rfl)) dX10_addCoboundary_2 ⟨Nat.le_of_ble_eq_true rfl, Nat.le_of_ble_eq_true rfl⟩) hP hD hS hA hC9 [some 0, some 1, none] (M := 3) rfl (by decide +kernel) (fun _ => rfl) (fun _ => rfl) (fun r_1 _ H locs hw hP hD hS => ?_)
  try dsimp only at hw
  have hP : va_P G.1 vwCl (wd_X10_addCoboundary G h_this h_now h_history h_over h_order h_colors h_row h_three h_seen h_group f_edits f_total a_now a_history) H := hP
  have hD : va_D A (wd_X10_addCoboundary G h_this h_now h_history h_over h_order h_colors h_row h_three h_seen h_group f_edits f_total a_now a_history) := hD
  refine lv_if_eq (tgt := 25) hx hb dX10_addCoboundary_5 (by decide) (fun c_2 => ?_) (fun c_2 => ?_)
  · have hw := hw.1 c_2
    refine lv_iconst (v := (-1)) hx hb dX10_addCoboundary_25 (by decide) ?_
    exact W.iret (v := (-1)) hx hb hr (fun t ht hW => ⟨⟨(-1), (f_edits, a_now, a_history), rfl, hw, by rw [ht]; exact hP, hD⟩, hS.F ht⟩) hS.2.2 dX10_addCoboundary_26
  · have hw := hw.2 c_2
    refine lv_iload_n hx hb dX10_addCoboundary_8 rfl (lv_at hl 2 rfl) ?_
    refine lv_iconst (v := 0) hx hb dX10_addCoboundary_9 (by decide) ?_
    refine lv_aload_n hx hb dX10_addCoboundary_10 rfl (lv_at hl 0 rfl) ?_
    refine va_get (D := G.1) (ci := 10) (v := .ref h_now) (C := RX10) (T := TX10) (N := 11) hx hb hts in_X10_addCoboundary_X10 hown hE.1 hP 0 rfl rfl 0 (by decide) (hts (.fieldLink RX10 7 "QuandleColoringsModel" "now" "[I") lk_X10_addCoboundary_7) (fun _ h9 => h9) rfl dX10_addCoboundary_11 ?_
    refine lv_bipush (v := 87) hx hb dX10_addCoboundary_14 (by decide) ?_
    have hin := hw.1
    have hw := hw.2
    refine va_iald hx hb hE.1 hP 1 0 rfl rfl hin dX10_addCoboundary_16 ?_
    refine lv_iconst (v := 1) hx hb dX10_addCoboundary_17 (by decide) ?_
    refine lv_isub hx hb dX10_addCoboundary_18 ?_
    have hC9 : ([] : List Nat).map (fun i => (wd_X10_addCoboundary G h_this h_now h_history h_over h_order h_colors h_row h_three h_seen h_group f_edits f_total a_now a_history)[i]?) = (wd_X10_in G).map some := rfl
    refine qn_callI (wd := (fun u : Unit => wd_X10_addCoboundary G h_this h_now h_history h_over h_order h_colors h_row h_three h_seen h_group f_edits f_total a_now a_history)) [] (va_runS (As := [.int x2, .int 0, .int ((a_now (87 : Int32).toNatClampNeg) - 1)]) (rest := []) ⟨hx, hb, hml, hown, hts⟩ (c_X10_in G _ x2 0 ((a_now (87 : Int32).toNatClampNeg) - 1) hw) (va_cwS 3 hts gX10_addCoboundary_X10_in rfl rfl rfl (by decide +kernel) ⟨Nat.le_of_ble_eq_true rfl, Nat.le_of_ble_eq_true rfl⟩) (qn_preS hE hP hD [] hC9 (by decide +kernel)) rfl rfl hl.1 rfl (lv_room (Nat.le_of_ble_eq_true rfl)) dX10_addCoboundary_19 ⟨Nat.le_of_ble_eq_true rfl, Nat.le_of_ble_eq_true rfl⟩) hP hD hS hA hC9 [none, none, none] (M := 3) rfl (by decide +kernel) (fun _ => rfl) (fun _ => rfl) (fun r_3 _ H locs hw hP hD hS => ?_)
    try dsimp only at hw
    have hP : va_P G.1 vwCl (wd_X10_addCoboundary G h_this h_now h_history h_over h_order h_colors h_row h_three h_seen h_group f_edits f_total a_now a_history) H := hP
    have hD : va_D A (wd_X10_addCoboundary G h_this h_now h_history h_over h_order h_colors h_row h_three h_seen h_group f_edits f_total a_now a_history) := hD
    refine lv_if_ne (tgt := 27) hx hb dX10_addCoboundary_22 (by decide) (fun c_4 => ?_) (fun c_4 => ?_)
    · have hw := hw.1 c_4
      refine lv_aload_n hx hb dX10_addCoboundary_27 rfl (lv_at hl 0 rfl) ?_
      have hC9 : ([0, 1, 2]).map (fun i => (wd_X10_addCoboundary G h_this h_now h_history h_over h_order h_colors h_row h_three h_seen h_group f_edits f_total a_now a_history)[i]?) = (wd_X10_edit G h_this h_now h_history h_over h_order h_colors h_row h_three h_seen h_group f_edits f_total a_now a_history).map some := rfl
      refine qn_callV (wd := (fun u : Int32 × (Nat → Int32) => wd_X10_addCoboundary G h_this h_now h_history h_over h_order h_colors h_row h_three h_seen h_group (u.1) f_total a_now (u.2))) [0, 1, 2] (va_runV (As := []) (rest := []) ⟨hx, hb, hml, hown, hts⟩ (c_X10_edit G _ h_this h_now h_history h_over h_order h_colors h_row h_three h_seen h_group f_edits f_total a_now a_history hw) (cwV 0 hts gX10_addCoboundary_X10_edit rfl rfl rfl (by decide +kernel) ⟨Nat.le_of_ble_eq_true rfl, Nat.le_of_ble_eq_true rfl⟩) (qn_preV hE hP hD [0, 1, 2] hC9 (by decide +kernel) (ci := 10) rfl rfl) rfl rfl hl.1 rfl (lv_room (Nat.le_of_ble_eq_true rfl)) dX10_addCoboundary_28 ⟨Nat.le_of_ble_eq_true rfl, Nat.le_of_ble_eq_true rfl⟩) hP hD hS hA hC9 [some 0, some 1, some 2] (M := 3) rfl (by decide +kernel) (fun _ => rfl) (fun _ => rfl) (fun u_7 H locs hw hP hD hS => ?_)
      obtain ⟨f_edits_5, a_history_6⟩ := u_7
      try dsimp only at hw
      have hP : va_P G.1 vwCl (wd_X10_addCoboundary G h_this h_now h_history h_over h_order h_colors h_row h_three h_seen h_group f_edits_5 f_total a_now a_history_6) H := hP
      have hD : va_D A (wd_X10_addCoboundary G h_this h_now h_history h_over h_order h_colors h_row h_three h_seen h_group f_edits_5 f_total a_now a_history_6) := hD
      refine lv_iconst (v := 0) hx hb dX10_addCoboundary_31 (by decide) ?_
      refine lv_istore_n (lv' := [(3, .int 0), (0, .ref h_this), (1, .int x1), (2, .int x2)]) hx hb dX10_addCoboundary_32 rfl hl (by decide) rfl (fun ls hl => ?_)
      refine lv_iconst (v := 0) hx hb dX10_addCoboundary_33 (by decide) ?_
      refine lv_istore (lv' := [(4, .int 0), (3, .int 0), (0, .ref h_this), (1, .int x1), (2, .int x2)]) hx hb dX10_addCoboundary_34 hl (by decide) rfl (fun ls hl => ?_)
      obtain ⟨fu_76, hw⟩ := hw
      refine l_X10_addCoboundary_36 (post := post) C0 hE hA (fun x3_74 a_now_75 hw H locs ls hP hD hS hl => ?_) fu_76 0 0 a_now hw _ _ _ hP hD hS (lv_sub hl [2, 3, 4, 1, 0] rfl)
      refine lv_iload_n hx hb dX10_addCoboundary_168 rfl (lv_at hl 0 rfl) ?_
      exact W.iret (v := x3_74) hx hb hr (fun t ht hW => ⟨⟨x3_74, (f_edits_5, a_now_75, a_history_6), rfl, hw, by rw [ht]; exact hP, hD⟩, hS.F ht⟩) hS.2.2 dX10_addCoboundary_169
    · have hw := hw.2 c_4
      refine lv_iconst (v := (-1)) hx hb dX10_addCoboundary_25 (by decide) ?_
      exact W.iret (v := (-1)) hx hb hr (fun t ht hW => ⟨⟨(-1), (f_edits, a_now, a_history), rfl, hw, by rw [ht]; exact hP, hD⟩, hS.F ht⟩) hS.2.2 dX10_addCoboundary_26
-- QuandleColoringsModel.weight(II)I
abbrev rm_X10_weight : Room := { frames := 2, cells := 0, slots := 0, locals := 43 }
abbrev wd_X10_weight (G : qn_G) (h_this h_now h_history h_over h_order h_colors h_row h_three h_seen h_group : Nat) (f_edits : Int32) (f_total : Int32) (a_now : Nat → Int32) : va_W := [(h_this, .inr (10, [.ref h_now, .ref h_history, .int f_edits, .ref h_over, .ref h_order, .ref h_colors, .int f_total, .ref h_row, .ref h_three, .ref h_seen, .ref h_group])), (h_now, .inl (G.2.1, 88, .inl a_now))]
def wp_X10_weight (post : Int32 → Prop) (a_now : Nat → Int32) (x1 : Int32) (x2 : Int32) : Prop := (wp_X10_isElement (fun (r_1 : Int32) => ((r_1 = 0 → (post (-1))) ∧ (¬ r_1 = 0 → (wp_X10_isElement (fun (r_3 : Int32) => ((r_3 = 0 → (post (-1))) ∧ (¬ r_3 = 0 → (wp_X10_weightOf (fun (r_5 : Int32) => (post r_5)) a_now x1 x2)))) a_now x2)))) a_now x1)
set_option maxHeartbeats 4000000 in
set_option maxRecDepth 100000 in
theorem c_X10_weight {l : Launch} (G : qn_G) (sz : Nat) (h_this h_now h_history h_over h_order h_colors h_row h_three h_seen h_group : Nat) (f_edits : Int32) (f_total : Int32) (a_now : Nat → Int32) (x1 : Int32) (x2 : Int32) {post : Int32 → Prop} (hw : wp_X10_weight post a_now x1 x2) : Met l yX10_weight wsX10_weight rm_X10_weight (qn_PC G [.ref h_this, .int x1, .int x2] sz (wd_X10_weight G h_this h_now h_history h_over h_order h_colors h_row h_three h_seen h_group f_edits f_total a_now)) (qn_QI G (fun (r : Int32) (u : Unit) => post r) (fun u : Unit => wd_X10_weight G h_this h_now h_history h_over h_order h_colors h_row h_three h_seen h_group f_edits f_total a_now) (va_A (wd_X10_weight G h_this h_now h_history h_over h_order h_colors h_row h_three h_seen h_group f_edits f_total a_now) sz)) 0 0 (va_A (wd_X10_weight G h_this h_now h_history h_over h_order h_colors h_row h_three h_seen h_group f_edits f_total a_now) sz) := by
  refine Met.ofW (cc := cX10_weight) (maxL := 3) (ret := (some .int)) (by decide) rfl ?_
  intro p e s m args below meth c s₁ B hml hv
  obtain ⟨rfl, hsz, hP, hE, hD0⟩ := hv
  have C0 : qn_C p m c cX10_weight 3 s _ wsX10_weight RX10 meth (some .int) := qn_C0 B hml
  obtain ⟨hx, hb, -, hown, hts, hr, hlocks⟩ := id C0
  subst hsz
  have hD := hD0.self (sz := s.heap.size)
  generalize hAe : va_A (wd_X10_weight G h_this h_now h_history h_over h_order h_colors h_row h_three h_seen h_group f_edits f_total a_now) s.heap.size = A at hD ⊢
  have hA : ∀ q : Nat, s.heap.size ≤ q → A q := fun q h => by rw [← hAe]; exact Or.inr h
  clear hAe
  have hS : va_S A s.heap s.heap [] := va_S.rf
  have hl := lv_entry ([.ref h_this, .int x1, .int x2]) (n := 3) (Nat.le_of_ble_eq_true rfl)
  rw [lg_entry_eq]
  generalize (lg_sl ([.ref h_this, .int x1, .int x2]) ++ List.replicate (3 - (lg_sl ([.ref h_this, .int x1, .int x2])).length) Slot.unset).toArray = ls at hl ⊢
  have hl : lv_has ls 3 [(0, .ref h_this), (1, .int x1), (2, .int x2)] := hl
  have hP : va_P G.1 vwCl (wd_X10_weight G h_this h_now h_history h_over h_order h_colors h_row h_three h_seen h_group f_edits f_total a_now) s.heap := hP
  refine lv_aload_n hx hb dX10_weight_0 rfl (lv_at hl 0 rfl) ?_
  refine lv_iload_n hx hb dX10_weight_1 rfl (lv_at hl 1 rfl) ?_
  have hC9 : ([0, 1]).map (fun i => (wd_X10_weight G h_this h_now h_history h_over h_order h_colors h_row h_three h_seen h_group f_edits f_total a_now)[i]?) = (wd_X10_isElement G h_this h_now h_history h_over h_order h_colors h_row h_three h_seen h_group f_edits f_total a_now).map some := rfl
  refine qn_callI (wd := (fun u : Unit => wd_X10_weight G h_this h_now h_history h_over h_order h_colors h_row h_three h_seen h_group f_edits f_total a_now)) [0, 1] (va_runV (As := [.int x1]) (rest := []) ⟨hx, hb, hml, hown, hts⟩ (c_X10_isElement G _ h_this h_now h_history h_over h_order h_colors h_row h_three h_seen h_group f_edits f_total a_now x1 hw) (cwV 1 hts gX10_weight_X10_isElement rfl rfl rfl (by decide +kernel) ⟨Nat.le_of_ble_eq_true rfl, Nat.le_of_ble_eq_true rfl⟩) (qn_preV hE hP hD [0, 1] hC9 (by decide +kernel) (ci := 10) rfl rfl) rfl rfl hl.1 rfl (lv_room (Nat.le_of_ble_eq_true rfl)) dX10_weight_2 ⟨Nat.le_of_ble_eq_true rfl, Nat.le_of_ble_eq_true rfl⟩) hP hD hS hA hC9 [some 0, some 1] (M := 2) rfl (by decide +kernel) (fun _ => rfl) (fun _ => rfl) (fun r_1 _ H locs hw hP hD hS => ?_)
  try dsimp only at hw
  have hP : va_P G.1 vwCl (wd_X10_weight G h_this h_now h_history h_over h_order h_colors h_row h_three h_seen h_group f_edits f_total a_now) H := hP
  have hD : va_D A (wd_X10_weight G h_this h_now h_history h_over h_order h_colors h_row h_three h_seen h_group f_edits f_total a_now) := hD
  refine lv_if_eq (tgt := 25) hx hb dX10_weight_5 (by decide) (fun c_2 => ?_) (fun c_2 => ?_)
  · have hw := hw.1 c_2
    refine lv_iconst (v := (-1)) hx hb dX10_weight_25 (by decide) ?_
    exact W.iret (v := (-1)) hx hb hr (fun t ht hW => ⟨⟨(-1), (), rfl, hw, by rw [ht]; exact hP, hD⟩, hS.F ht⟩) hS.2.2 dX10_weight_26
  · have hw := hw.2 c_2
    refine lv_aload_n hx hb dX10_weight_8 rfl (lv_at hl 0 rfl) ?_
    refine lv_iload_n hx hb dX10_weight_9 rfl (lv_at hl 2 rfl) ?_
    have hC9 : ([0, 1]).map (fun i => (wd_X10_weight G h_this h_now h_history h_over h_order h_colors h_row h_three h_seen h_group f_edits f_total a_now)[i]?) = (wd_X10_isElement G h_this h_now h_history h_over h_order h_colors h_row h_three h_seen h_group f_edits f_total a_now).map some := rfl
    refine qn_callI (wd := (fun u : Unit => wd_X10_weight G h_this h_now h_history h_over h_order h_colors h_row h_three h_seen h_group f_edits f_total a_now)) [0, 1] (va_runV (As := [.int x2]) (rest := []) ⟨hx, hb, hml, hown, hts⟩ (c_X10_isElement G _ h_this h_now h_history h_over h_order h_colors h_row h_three h_seen h_group f_edits f_total a_now x2 hw) (cwV 1 hts gX10_weight_X10_isElement rfl rfl rfl (by decide +kernel) ⟨Nat.le_of_ble_eq_true rfl, Nat.le_of_ble_eq_true rfl⟩) (qn_preV hE hP hD [0, 1] hC9 (by decide +kernel) (ci := 10) rfl rfl) rfl rfl hl.1 rfl (lv_room (Nat.le_of_ble_eq_true rfl)) dX10_weight_10 ⟨Nat.le_of_ble_eq_true rfl, Nat.le_of_ble_eq_true rfl⟩) hP hD hS hA hC9 [some 0, some 1] (M := 2) rfl (by decide +kernel) (fun _ => rfl) (fun _ => rfl) (fun r_3 _ H locs hw hP hD hS => ?_)
    try dsimp only at hw
    have hP : va_P G.1 vwCl (wd_X10_weight G h_this h_now h_history h_over h_order h_colors h_row h_three h_seen h_group f_edits f_total a_now) H := hP
    have hD : va_D A (wd_X10_weight G h_this h_now h_history h_over h_order h_colors h_row h_three h_seen h_group f_edits f_total a_now) := hD
    refine lv_if_eq (tgt := 25) hx hb dX10_weight_13 (by decide) (fun c_4 => ?_) (fun c_4 => ?_)
    · have hw := hw.1 c_4
      refine lv_iconst (v := (-1)) hx hb dX10_weight_25 (by decide) ?_
      exact W.iret (v := (-1)) hx hb hr (fun t ht hW => ⟨⟨(-1), (), rfl, hw, by rw [ht]; exact hP, hD⟩, hS.F ht⟩) hS.2.2 dX10_weight_26
    · have hw := hw.2 c_4
      refine lv_aload_n hx hb dX10_weight_16 rfl (lv_at hl 0 rfl) ?_
      refine lv_iload_n hx hb dX10_weight_17 rfl (lv_at hl 1 rfl) ?_
      refine lv_iload_n hx hb dX10_weight_18 rfl (lv_at hl 2 rfl) ?_
      have hC9 : ([0, 1]).map (fun i => (wd_X10_weight G h_this h_now h_history h_over h_order h_colors h_row h_three h_seen h_group f_edits f_total a_now)[i]?) = (wd_X10_weightOf G h_this h_now h_history h_over h_order h_colors h_row h_three h_seen h_group f_edits f_total a_now).map some := rfl
      refine qn_callI (wd := (fun u : Unit => wd_X10_weight G h_this h_now h_history h_over h_order h_colors h_row h_three h_seen h_group f_edits f_total a_now)) [0, 1] (va_runV (As := [.int x1, .int x2]) (rest := []) ⟨hx, hb, hml, hown, hts⟩ (c_X10_weightOf G _ h_this h_now h_history h_over h_order h_colors h_row h_three h_seen h_group f_edits f_total a_now x1 x2 hw) (cwV 2 hts gX10_weight_X10_weightOf rfl rfl rfl (by decide +kernel) ⟨Nat.le_of_ble_eq_true rfl, Nat.le_of_ble_eq_true rfl⟩) (qn_preV hE hP hD [0, 1] hC9 (by decide +kernel) (ci := 10) rfl rfl) rfl rfl hl.1 rfl (lv_room (Nat.le_of_ble_eq_true rfl)) dX10_weight_19 ⟨Nat.le_of_ble_eq_true rfl, Nat.le_of_ble_eq_true rfl⟩) hP hD hS hA hC9 [some 0, some 1] (M := 2) rfl (by decide +kernel) (fun _ => rfl) (fun _ => rfl) (fun r_5 _ H locs hw hP hD hS => ?_)
      try dsimp only at hw
      have hP : va_P G.1 vwCl (wd_X10_weight G h_this h_now h_history h_over h_order h_colors h_row h_three h_seen h_group f_edits f_total a_now) H := hP
      have hD : va_D A (wd_X10_weight G h_this h_now h_history h_over h_order h_colors h_row h_three h_seen h_group f_edits f_total a_now) := hD
      refine lv_goto (tgt := 26) hx hb dX10_weight_22 (by decide) ?_
      exact W.iret (v := r_5) hx hb hr (fun t ht hW => ⟨⟨r_5, (), rfl, hw, by rw [ht]; exact hP, hD⟩, hS.F ht⟩) hS.2.2 dX10_weight_26
-- QuandleColoringsModel.cocycleViolation()I
abbrev rm_X10_cocycleViolation : Room := { frames := 2, cells := 0, slots := 0, locals := 49 }
abbrev wd_X10_cocycleViolation (G : qn_G) (h_this h_now h_history h_over h_order h_colors h_row h_three h_seen h_group : Nat) (f_edits : Int32) (f_total : Int32) (a_now : Nat → Int32) : va_W := [(h_this, .inr (10, [.ref h_now, .ref h_history, .int f_edits, .ref h_over, .ref h_order, .ref h_colors, .int f_total, .ref h_row, .ref h_three, .ref h_seen, .ref h_group])), (h_now, .inl (G.2.1, 88, .inl a_now))]
def wp_X10_cocycleViolation (post : Int32 → Prop) (a_now : Nat → Int32) : Prop := (wp_X10_violation (fun (r_1 : Int32) => (post r_1)) a_now 1)
set_option maxHeartbeats 4000000 in
set_option maxRecDepth 100000 in
theorem c_X10_cocycleViolation {l : Launch} (G : qn_G) (sz : Nat) (h_this h_now h_history h_over h_order h_colors h_row h_three h_seen h_group : Nat) (f_edits : Int32) (f_total : Int32) (a_now : Nat → Int32) {post : Int32 → Prop} (hw : wp_X10_cocycleViolation post a_now) : Met l yX10_cocycleViolation wsX10_cocycleViolation rm_X10_cocycleViolation (qn_PC G [.ref h_this] sz (wd_X10_cocycleViolation G h_this h_now h_history h_over h_order h_colors h_row h_three h_seen h_group f_edits f_total a_now)) (qn_QI G (fun (r : Int32) (u : Unit) => post r) (fun u : Unit => wd_X10_cocycleViolation G h_this h_now h_history h_over h_order h_colors h_row h_three h_seen h_group f_edits f_total a_now) (va_A (wd_X10_cocycleViolation G h_this h_now h_history h_over h_order h_colors h_row h_three h_seen h_group f_edits f_total a_now) sz)) 0 0 (va_A (wd_X10_cocycleViolation G h_this h_now h_history h_over h_order h_colors h_row h_three h_seen h_group f_edits f_total a_now) sz) := by
  refine Met.ofW (cc := cX10_cocycleViolation) (maxL := 1) (ret := (some .int)) (by decide) rfl ?_
  intro p e s m args below meth c s₁ B hml hv
  obtain ⟨rfl, hsz, hP, hE, hD0⟩ := hv
  have C0 : qn_C p m c cX10_cocycleViolation 1 s _ wsX10_cocycleViolation RX10 meth (some .int) := qn_C0 B hml
  obtain ⟨hx, hb, -, hown, hts, hr, hlocks⟩ := id C0
  subst hsz
  have hD := hD0.self (sz := s.heap.size)
  generalize hAe : va_A (wd_X10_cocycleViolation G h_this h_now h_history h_over h_order h_colors h_row h_three h_seen h_group f_edits f_total a_now) s.heap.size = A at hD ⊢
  have hA : ∀ q : Nat, s.heap.size ≤ q → A q := fun q h => by rw [← hAe]; exact Or.inr h
  clear hAe
  have hS : va_S A s.heap s.heap [] := va_S.rf
  have hl := lv_entry ([.ref h_this]) (n := 1) (Nat.le_of_ble_eq_true rfl)
  rw [lg_entry_eq]
  generalize (lg_sl ([.ref h_this]) ++ List.replicate (1 - (lg_sl ([.ref h_this])).length) Slot.unset).toArray = ls at hl ⊢
  have hl : lv_has ls 1 [(0, .ref h_this)] := hl
  have hP : va_P G.1 vwCl (wd_X10_cocycleViolation G h_this h_now h_history h_over h_order h_colors h_row h_three h_seen h_group f_edits f_total a_now) s.heap := hP
  refine lv_aload_n hx hb dX10_cocycleViolation_0 rfl (lv_at hl 0 rfl) ?_
  refine lv_iconst (v := 1) hx hb dX10_cocycleViolation_1 (by decide) ?_
  have hC9 : ([0, 1]).map (fun i => (wd_X10_cocycleViolation G h_this h_now h_history h_over h_order h_colors h_row h_three h_seen h_group f_edits f_total a_now)[i]?) = (wd_X10_violation G h_this h_now h_history h_over h_order h_colors h_row h_three h_seen h_group f_edits f_total a_now).map some := rfl
  refine qn_callI (wd := (fun u : Unit => wd_X10_cocycleViolation G h_this h_now h_history h_over h_order h_colors h_row h_three h_seen h_group f_edits f_total a_now)) [0, 1] (va_runV (As := [.int 1]) (rest := []) ⟨hx, hb, hml, hown, hts⟩ (c_X10_violation G _ h_this h_now h_history h_over h_order h_colors h_row h_three h_seen h_group f_edits f_total a_now 1 hw) (cwV 1 hts gX10_cocycleViolation_X10_violation rfl rfl rfl (by decide +kernel) ⟨Nat.le_of_ble_eq_true rfl, Nat.le_of_ble_eq_true rfl⟩) (qn_preV hE hP hD [0, 1] hC9 (by decide +kernel) (ci := 10) rfl rfl) rfl rfl hl.1 rfl (lv_room (Nat.le_of_ble_eq_true rfl)) dX10_cocycleViolation_2 ⟨Nat.le_of_ble_eq_true rfl, Nat.le_of_ble_eq_true rfl⟩) hP hD hS hA hC9 [some 0, some 1] (M := 2) rfl (by decide +kernel) (fun _ => rfl) (fun _ => rfl) (fun r_1 _ H locs hw hP hD hS => ?_)
  try dsimp only at hw
  have hP : va_P G.1 vwCl (wd_X10_cocycleViolation G h_this h_now h_history h_over h_order h_colors h_row h_three h_seen h_group f_edits f_total a_now) H := hP
  have hD : va_D A (wd_X10_cocycleViolation G h_this h_now h_history h_over h_order h_colors h_row h_three h_seen h_group f_edits f_total a_now) := hD
  exact W.iret (v := r_1) hx hb hr (fun t ht hW => ⟨⟨r_1, (), rfl, hw, by rw [ht]; exact hP, hD⟩, hS.F ht⟩) hS.2.2 dX10_cocycleViolation_5
-- QuandleColoringsModel.stateSum(I)I
abbrev rm_X10_stateSum : Room := { frames := 2, cells := 0, slots := 0, locals := 50 }
abbrev wd_X10_stateSum (G : qn_G) (h_this h_now h_history h_over h_order h_colors h_row h_three h_seen h_group : Nat) (f_edits : Int32) (f_total : Int32) (a_now : Nat → Int32) (a_over : Nat → Int32) (a_colors : Nat → Int32) : va_W := [(h_this, .inr (10, [.ref h_now, .ref h_history, .int f_edits, .ref h_over, .ref h_order, .ref h_colors, .int f_total, .ref h_row, .ref h_three, .ref h_seen, .ref h_group])), (h_now, .inl (G.2.1, 88, .inl a_now)), (h_over, .inl (G.2.1, 36, .inl a_over)), (h_colors, .inl (G.2.1, 4, .inl a_colors))]
theorem in_X10_stateSum_X10 : ∀ w ∈ u_ws RX10 TX10 11, w ∈ wsX10_stateSum := by decide +kernel
theorem lk_X10_stateSum_7 : Cond.fieldLink RX10 7 "QuandleColoringsModel" "now" "[I" ∈ wsX10_stateSum := by decide +kernel
theorem lk_X10_stateSum_95 : Cond.fieldLink RX10 95 "QuandleColoringsModel" "total" "I" ∈ wsX10_stateSum := by decide +kernel
def wp_X10_stateSum_L41 (KL41 : Int32 → Int32 → (Nat → Int32) → Prop) (x1 : Int32) (x3 : Int32) (a_now : Nat → Int32) (a_over : Nat → Int32) : Nat → Int32 → Int32 → Int32 → (Nat → Int32) → Prop
  | 0 => fun _ _ _ _ => False
  | fu + 1 => fun x2 x4 f_total a_colors => ((x3 ≤ x4 → (KL41 x2 f_total a_colors)) ∧ (¬ x3 ≤ x4 → (wp_X10_isColoring (fun (r_10 : Int32) (f_total_8 : Int32) (a_colors_9 : Nat → Int32) => ((r_10 = 0 → (∀ x2_13 : Int32, x2_13 = x2 + 0 → (∀ x4_14 : Int32, x4_14 = x4 + 1 → ((wp_X10_stateSum_L41 KL41 x1 x3 a_now a_over fu) x2_13 x4_14 f_total_8 a_colors_9)))) ∧ (¬ r_10 = 0 → ((¬ f_total_8 = x1 → (∀ x2_16 : Int32, x2_16 = x2 + 0 → (∀ x4_17 : Int32, x4_17 = x4 + 1 → ((wp_X10_stateSum_L41 KL41 x1 x3 a_now a_over fu) x2_16 x4_17 f_total_8 a_colors_9)))) ∧ (f_total_8 = x1 → (∀ x2_18 : Int32, x2_18 = x2 + 1 → (∀ x4_19 : Int32, x4_19 = x4 + 1 → ((wp_X10_stateSum_L41 KL41 x1 x3 a_now a_over fu) x2_18 x4_19 f_total_8 a_colors_9)))))))) a_now a_over a_colors x4)))
def wp_X10_stateSum (post : Int32 → Int32 → (Nat → Int32) → (Nat → Int32) → Prop) (f_total : Int32) (a_now : Nat → Int32) (a_over : Nat → Int32) (a_colors : Nat → Int32) (x1 : Int32) : Prop := (vp_in 87 88 ∧ (wp_X10_in (fun (r_1 : Int32) => ((¬ r_1 = 0 → (wp_X10_column (fun (r_4 : Int32) (a_over_3 : Nat → Int32) => ((r_4 = (-4) → (wp_X10_codes (fun (r_6 : Int32) => (∃ fu_23 : Nat, wp_X10_stateSum_L41 (fun (x2_20 : Int32) (f_total_21 : Int32) (a_colors_22 : Nat → Int32) => (post x2_20 f_total_21 a_over_3 a_colors_22)) x1 r_6 a_now a_over_3 fu_23 0 0 f_total a_colors)) a_now)) ∧ (¬ r_4 = (-4) → (post (-2) f_total a_over_3 a_colors)))) a_now a_over)) ∧ (r_1 = 0 → (post (-1) f_total a_over a_colors)))) x1 0 ((a_now (87 : Int32).toNatClampNeg) - 1)))
set_option maxHeartbeats 4000000 in
set_option maxRecDepth 100000 in
theorem l_X10_stateSum_41 {p : Program} {l : Launch} {e : Env} {s : State} {m : MethodId} {args : Array Value} {below : List Frame} {meth : Method} {c : Code} {G : qn_G} {A : Nat → Prop} {h_this h_now h_history h_over h_order h_colors h_row h_three h_seen h_group : Nat} {f_edits : Int32} {a_now : Nat → Int32} {a_over : Nat → Int32} {x1 : Int32} {x3 : Int32} {post : Int32 → Int32 → (Nat → Int32) → (Nat → Int32) → Prop} {KL41 : Int32 → Int32 → (Nat → Int32) → Prop} (C0 : qn_C p m c cX10_stateSum 5 s args wsX10_stateSum RX10 meth (some .int)) (hE : qn_EV G s) (hA : ∀ q, s.heap.size ≤ q → A q) (hKc : ∀ (x2 : Int32) (f_total : Int32) (a_colors : Nat → Int32), KL41 x2 f_total a_colors → ∀ (H : Heap) (locs : List Loc) (ls : Array Slot), va_P G.1 vwCl (wd_X10_stateSum G h_this h_now h_history h_over h_order h_colors h_row h_three h_seen h_group f_edits f_total a_now a_over a_colors) H → va_D A (wd_X10_stateSum G h_this h_now h_history h_over h_order h_colors h_row h_three h_seen h_group f_edits f_total a_now a_over a_colors) → va_S A s.heap H locs → lv_has ls 5 [(2, .int x2)] → W p l e (headSpec wsX10_stateSum rm_X10_stateSum).room s m args below meth c H locs 0 0 (MQ below (qn_QI G (fun (r : Int32) (u : Int32 × (Nat → Int32) × (Nat → Int32)) => post r u.1 u.2.1 u.2.2) (fun u : Int32 × (Nat → Int32) × (Nat → Int32) => wd_X10_stateSum G h_this h_now h_history h_over h_order h_colors h_row h_three h_seen h_group f_edits (u.1) a_now (u.2.1) (u.2.2)) A) args s 0 0 A) (F0 m 78 ls [])) :
    ∀ (fu : Nat) (x2 : Int32) (x4 : Int32) (f_total : Int32) (a_colors : Nat → Int32), wp_X10_stateSum_L41 KL41 x1 x3 a_now a_over fu x2 x4 f_total a_colors → ∀ (H : Heap) (locs : List Loc) (ls : Array Slot), va_P G.1 vwCl (wd_X10_stateSum G h_this h_now h_history h_over h_order h_colors h_row h_three h_seen h_group f_edits f_total a_now a_over a_colors) H → va_D A (wd_X10_stateSum G h_this h_now h_history h_over h_order h_colors h_row h_three h_seen h_group f_edits f_total a_now a_over a_colors) → va_S A s.heap H locs → lv_has ls 5 [(0, .ref h_this), (1, .int x1), (2, .int x2), (3, .int x3), (4, .int x4)] → W p l e (headSpec wsX10_stateSum rm_X10_stateSum).room s m args below meth c H locs 0 0 (MQ below (qn_QI G (fun (r : Int32) (u : Int32 × (Nat → Int32) × (Nat → Int32)) => post r u.1 u.2.1 u.2.2) (fun u : Int32 × (Nat → Int32) × (Nat → Int32) => wd_X10_stateSum G h_this h_now h_history h_over h_order h_colors h_row h_three h_seen h_group f_edits (u.1) a_now (u.2.1) (u.2.2)) A) args s 0 0 A) (F0 m 41 ls []) := by
  obtain ⟨hx, hb, hml, hown, hts, hr, hlocks⟩ := id C0
  intro fu
  induction fu with
  | zero => intro x2 x4 f_total a_colors hw; exact hw.elim
  | succ fu ih =>
    intro x2 x4 f_total a_colors hw H locs ls hP hD hS hl
    refine lv_iload hx hb dX10_stateSum_41 (lv_at hl 4 rfl) ?_
    refine lv_iload_n hx hb dX10_stateSum_43 rfl (lv_at hl 3 rfl) ?_
    refine lv_icmp_ge (tgt := 78) hx hb dX10_stateSum_44 (by decide) (fun c_7 => ?_) (fun c_7 => ?_)
    · have hw := hw.1 c_7
      exact hKc x2 f_total a_colors hw _ _ _ hP hD hS (lv_sub hl [2] rfl)
    · have hw := hw.2 c_7
      refine lv_iload_n hx hb dX10_stateSum_47 rfl (lv_at hl 2 rfl) ?_
      refine lv_aload_n hx hb dX10_stateSum_48 rfl (lv_at hl 0 rfl) ?_
      refine lv_iload hx hb dX10_stateSum_49 (lv_at hl 4 rfl) ?_
      have hC9 : ([0, 1, 2, 3]).map (fun i => (wd_X10_stateSum G h_this h_now h_history h_over h_order h_colors h_row h_three h_seen h_group f_edits f_total a_now a_over a_colors)[i]?) = (wd_X10_isColoring G h_this h_now h_history h_over h_order h_colors h_row h_three h_seen h_group f_edits f_total a_now a_over a_colors).map some := rfl
      refine qn_callI (wd := (fun u : Int32 × (Nat → Int32) => wd_X10_stateSum G h_this h_now h_history h_over h_order h_colors h_row h_three h_seen h_group f_edits (u.1) a_now a_over (u.2))) [0, 1, 2, 3] (va_runV (As := [.int x4]) (rest := [.int x2]) ⟨hx, hb, hml, hown, hts⟩ (c_X10_isColoring G _ h_this h_now h_history h_over h_order h_colors h_row h_three h_seen h_group f_edits f_total a_now a_over a_colors x4 hw) (cwV 1 hts gX10_stateSum_X10_isColoring rfl rfl rfl (by decide +kernel) ⟨Nat.le_of_ble_eq_true rfl, Nat.le_of_ble_eq_true rfl⟩) (qn_preV hE hP hD [0, 1, 2, 3] hC9 (by decide +kernel) (ci := 10) rfl rfl) rfl rfl hl.1 rfl (lv_room (Nat.le_of_ble_eq_true rfl)) dX10_stateSum_51 ⟨Nat.le_of_ble_eq_true rfl, Nat.le_of_ble_eq_true rfl⟩) hP hD hS hA hC9 [some 0, some 1, some 2, some 3] (M := 4) rfl (by decide +kernel) (fun _ => rfl) (fun _ => rfl) (fun r_10 u_11 H locs hw hP hD hS => ?_)
      obtain ⟨f_total_8, a_colors_9⟩ := u_11
      try dsimp only at hw
      have hP : va_P G.1 vwCl (wd_X10_stateSum G h_this h_now h_history h_over h_order h_colors h_row h_three h_seen h_group f_edits f_total_8 a_now a_over a_colors_9) H := hP
      have hD : va_D A (wd_X10_stateSum G h_this h_now h_history h_over h_order h_colors h_row h_three h_seen h_group f_edits f_total_8 a_now a_over a_colors_9) := hD
      refine lv_if_eq (tgt := 69) hx hb dX10_stateSum_54 (by decide) (fun c_12 => ?_) (fun c_12 => ?_)
      · have hw := hw.1 c_12
        refine lv_iconst (v := 0) hx hb dX10_stateSum_69 (by decide) ?_
        refine lv_iadd hx hb dX10_stateSum_70 ?_
        refine lv_topi (fun x2_13 ex2_13 => ?_)
        have hw := hw x2_13 ex2_13
        refine lv_istore_n (lv' := [(2, .int x2_13), (0, .ref h_this), (1, .int x1), (3, .int x3), (4, .int x4)]) hx hb dX10_stateSum_71 rfl hl (by decide) rfl (fun ls hl => ?_)
        obtain ⟨x4_14, ex4_14⟩ : ∃ y : Int32, y = x4 + 1 := ⟨_, rfl⟩
        have hw := hw x4_14 ex4_14
        refine lv_iinc (v := x4_14) (lv' := [(4, .int x4_14), (2, .int x2_13), (0, .ref h_this), (1, .int x1), (3, .int x3)]) hx hb dX10_stateSum_72 hl (k := 4) rfl (by rw [ex4_14]; rfl) (by decide) rfl (fun ls hl => ?_)
        refine lv_goto (tgt := 41) hx hb dX10_stateSum_75 (by decide) ?_
        exact ih x2_13 x4_14 f_total_8 a_colors_9 hw _ _ _ hP hD hS (lv_sub hl [2, 3, 1, 4, 0] rfl)
      · have hw := hw.2 c_12
        refine lv_aload_n hx hb dX10_stateSum_57 rfl (lv_at hl 0 rfl) ?_
        refine va_get (D := G.1) (ci := 10) (v := .int f_total_8) (C := RX10) (T := TX10) (N := 11) hx hb hts in_X10_stateSum_X10 hown hE.1 hP 0 rfl rfl 6 (by decide) (hts (.fieldLink RX10 95 "QuandleColoringsModel" "total" "I") lk_X10_stateSum_95) (fun _ h9 => h9) rfl dX10_stateSum_58 ?_
        refine lv_iload_n hx hb dX10_stateSum_61 rfl (lv_at hl 1 rfl) ?_
        refine lv_icmp_ne (tgt := 69) hx hb dX10_stateSum_62 (by decide) (fun c_15 => ?_) (fun c_15 => ?_)
        · have hw := hw.1 c_15
          refine lv_iconst (v := 0) hx hb dX10_stateSum_69 (by decide) ?_
          refine lv_iadd hx hb dX10_stateSum_70 ?_
          refine lv_topi (fun x2_16 ex2_16 => ?_)
          have hw := hw x2_16 ex2_16
          refine lv_istore_n (lv' := [(2, .int x2_16), (0, .ref h_this), (1, .int x1), (3, .int x3), (4, .int x4)]) hx hb dX10_stateSum_71 rfl hl (by decide) rfl (fun ls hl => ?_)
          obtain ⟨x4_17, ex4_17⟩ : ∃ y : Int32, y = x4 + 1 := ⟨_, rfl⟩
          have hw := hw x4_17 ex4_17
          refine lv_iinc (v := x4_17) (lv' := [(4, .int x4_17), (2, .int x2_16), (0, .ref h_this), (1, .int x1), (3, .int x3)]) hx hb dX10_stateSum_72 hl (k := 4) rfl (by rw [ex4_17]; rfl) (by decide) rfl (fun ls hl => ?_)
          refine lv_goto (tgt := 41) hx hb dX10_stateSum_75 (by decide) ?_
          exact ih x2_16 x4_17 f_total_8 a_colors_9 hw _ _ _ hP hD hS (lv_sub hl [2, 3, 1, 4, 0] rfl)
        · have hw := hw.2 c_15
          refine lv_iconst (v := 1) hx hb dX10_stateSum_65 (by decide) ?_
          refine lv_goto (tgt := 70) hx hb dX10_stateSum_66 (by decide) ?_
          refine lv_iadd hx hb dX10_stateSum_70 ?_
          refine lv_topi (fun x2_18 ex2_18 => ?_)
          have hw := hw x2_18 ex2_18
          refine lv_istore_n (lv' := [(2, .int x2_18), (0, .ref h_this), (1, .int x1), (3, .int x3), (4, .int x4)]) hx hb dX10_stateSum_71 rfl hl (by decide) rfl (fun ls hl => ?_)
          obtain ⟨x4_19, ex4_19⟩ : ∃ y : Int32, y = x4 + 1 := ⟨_, rfl⟩
          have hw := hw x4_19 ex4_19
          refine lv_iinc (v := x4_19) (lv' := [(4, .int x4_19), (2, .int x2_18), (0, .ref h_this), (1, .int x1), (3, .int x3)]) hx hb dX10_stateSum_72 hl (k := 4) rfl (by rw [ex4_19]; rfl) (by decide) rfl (fun ls hl => ?_)
          refine lv_goto (tgt := 41) hx hb dX10_stateSum_75 (by decide) ?_
          exact ih x2_18 x4_19 f_total_8 a_colors_9 hw _ _ _ hP hD hS (lv_sub hl [2, 3, 1, 4, 0] rfl)
set_option maxHeartbeats 4000000 in
set_option maxRecDepth 100000 in
theorem c_X10_stateSum {l : Launch} (G : qn_G) (sz : Nat) (h_this h_now h_history h_over h_order h_colors h_row h_three h_seen h_group : Nat) (f_edits : Int32) (f_total : Int32) (a_now : Nat → Int32) (a_over : Nat → Int32) (a_colors : Nat → Int32) (x1 : Int32) {post : Int32 → Int32 → (Nat → Int32) → (Nat → Int32) → Prop} (hw : wp_X10_stateSum post f_total a_now a_over a_colors x1) : Met l yX10_stateSum wsX10_stateSum rm_X10_stateSum (qn_PC G [.ref h_this, .int x1] sz (wd_X10_stateSum G h_this h_now h_history h_over h_order h_colors h_row h_three h_seen h_group f_edits f_total a_now a_over a_colors)) (qn_QI G (fun (r : Int32) (u : Int32 × (Nat → Int32) × (Nat → Int32)) => post r u.1 u.2.1 u.2.2) (fun u : Int32 × (Nat → Int32) × (Nat → Int32) => wd_X10_stateSum G h_this h_now h_history h_over h_order h_colors h_row h_three h_seen h_group f_edits (u.1) a_now (u.2.1) (u.2.2)) (va_A (wd_X10_stateSum G h_this h_now h_history h_over h_order h_colors h_row h_three h_seen h_group f_edits f_total a_now a_over a_colors) sz)) 0 0 (va_A (wd_X10_stateSum G h_this h_now h_history h_over h_order h_colors h_row h_three h_seen h_group f_edits f_total a_now a_over a_colors) sz) := by
  refine Met.ofW (cc := cX10_stateSum) (maxL := 5) (ret := (some .int)) (by decide) rfl ?_
  intro p e s m args below meth c s₁ B hml hv
  obtain ⟨rfl, hsz, hP, hE, hD0⟩ := hv
  have C0 : qn_C p m c cX10_stateSum 5 s _ wsX10_stateSum RX10 meth (some .int) := qn_C0 B hml
  obtain ⟨hx, hb, -, hown, hts, hr, hlocks⟩ := id C0
  subst hsz
  have hD := hD0.self (sz := s.heap.size)
  generalize hAe : va_A (wd_X10_stateSum G h_this h_now h_history h_over h_order h_colors h_row h_three h_seen h_group f_edits f_total a_now a_over a_colors) s.heap.size = A at hD ⊢
  have hA : ∀ q : Nat, s.heap.size ≤ q → A q := fun q h => by rw [← hAe]; exact Or.inr h
  clear hAe
  have hS : va_S A s.heap s.heap [] := va_S.rf
  have hl := lv_entry ([.ref h_this, .int x1]) (n := 5) (Nat.le_of_ble_eq_true rfl)
  rw [lg_entry_eq]
  generalize (lg_sl ([.ref h_this, .int x1]) ++ List.replicate (5 - (lg_sl ([.ref h_this, .int x1])).length) Slot.unset).toArray = ls at hl ⊢
  have hl : lv_has ls 5 [(0, .ref h_this), (1, .int x1)] := hl
  have hP : va_P G.1 vwCl (wd_X10_stateSum G h_this h_now h_history h_over h_order h_colors h_row h_three h_seen h_group f_edits f_total a_now a_over a_colors) s.heap := hP
  refine lv_iload_n hx hb dX10_stateSum_0 rfl (lv_at hl 1 rfl) ?_
  refine lv_iconst (v := 0) hx hb dX10_stateSum_1 (by decide) ?_
  refine lv_aload_n hx hb dX10_stateSum_2 rfl (lv_at hl 0 rfl) ?_
  refine va_get (D := G.1) (ci := 10) (v := .ref h_now) (C := RX10) (T := TX10) (N := 11) hx hb hts in_X10_stateSum_X10 hown hE.1 hP 0 rfl rfl 0 (by decide) (hts (.fieldLink RX10 7 "QuandleColoringsModel" "now" "[I") lk_X10_stateSum_7) (fun _ h9 => h9) rfl dX10_stateSum_3 ?_
  refine lv_bipush (v := 87) hx hb dX10_stateSum_6 (by decide) ?_
  have hin := hw.1
  have hw := hw.2
  refine va_iald hx hb hE.1 hP 1 0 rfl rfl hin dX10_stateSum_8 ?_
  refine lv_iconst (v := 1) hx hb dX10_stateSum_9 (by decide) ?_
  refine lv_isub hx hb dX10_stateSum_10 ?_
  have hC9 : ([] : List Nat).map (fun i => (wd_X10_stateSum G h_this h_now h_history h_over h_order h_colors h_row h_three h_seen h_group f_edits f_total a_now a_over a_colors)[i]?) = (wd_X10_in G).map some := rfl
  refine qn_callI (wd := (fun u : Unit => wd_X10_stateSum G h_this h_now h_history h_over h_order h_colors h_row h_three h_seen h_group f_edits f_total a_now a_over a_colors)) [] (va_runS (As := [.int x1, .int 0, .int ((a_now (87 : Int32).toNatClampNeg) - 1)]) (rest := []) ⟨hx, hb, hml, hown, hts⟩ (c_X10_in G _ x1 0 ((a_now (87 : Int32).toNatClampNeg) - 1) hw) (va_cwS 3 hts gX10_stateSum_X10_in rfl rfl rfl (by decide +kernel) ⟨Nat.le_of_ble_eq_true rfl, Nat.le_of_ble_eq_true rfl⟩) (qn_preS hE hP hD [] hC9 (by decide +kernel)) rfl rfl hl.1 rfl (lv_room (Nat.le_of_ble_eq_true rfl)) dX10_stateSum_11 ⟨Nat.le_of_ble_eq_true rfl, Nat.le_of_ble_eq_true rfl⟩) hP hD hS hA hC9 [none, none, none, none] (M := 4) rfl (by decide +kernel) (fun _ => rfl) (fun _ => rfl) (fun r_1 _ H locs hw hP hD hS => ?_)
  try dsimp only at hw
  have hP : va_P G.1 vwCl (wd_X10_stateSum G h_this h_now h_history h_over h_order h_colors h_row h_three h_seen h_group f_edits f_total a_now a_over a_colors) H := hP
  have hD : va_D A (wd_X10_stateSum G h_this h_now h_history h_over h_order h_colors h_row h_three h_seen h_group f_edits f_total a_now a_over a_colors) := hD
  refine lv_if_ne (tgt := 19) hx hb dX10_stateSum_14 (by decide) (fun c_2 => ?_) (fun c_2 => ?_)
  · have hw := hw.1 c_2
    refine lv_aload_n hx hb dX10_stateSum_19 rfl (lv_at hl 0 rfl) ?_
    have hC9 : ([0, 1, 2]).map (fun i => (wd_X10_stateSum G h_this h_now h_history h_over h_order h_colors h_row h_three h_seen h_group f_edits f_total a_now a_over a_colors)[i]?) = (wd_X10_column G h_this h_now h_history h_over h_order h_colors h_row h_three h_seen h_group f_edits f_total a_now a_over).map some := rfl
    refine qn_callI (wd := (fun u : (Nat → Int32) => wd_X10_stateSum G h_this h_now h_history h_over h_order h_colors h_row h_three h_seen h_group f_edits f_total a_now u a_colors)) [0, 1, 2] (va_runV (As := []) (rest := []) ⟨hx, hb, hml, hown, hts⟩ (c_X10_column G _ h_this h_now h_history h_over h_order h_colors h_row h_three h_seen h_group f_edits f_total a_now a_over hw) (cwV 0 hts gX10_stateSum_X10_column rfl rfl rfl (by decide +kernel) ⟨Nat.le_of_ble_eq_true rfl, Nat.le_of_ble_eq_true rfl⟩) (qn_preV hE hP hD [0, 1, 2] hC9 (by decide +kernel) (ci := 10) rfl rfl) rfl rfl hl.1 rfl (lv_room (Nat.le_of_ble_eq_true rfl)) dX10_stateSum_20 ⟨Nat.le_of_ble_eq_true rfl, Nat.le_of_ble_eq_true rfl⟩) hP hD hS hA hC9 [some 0, some 1, some 2, none] (M := 4) rfl (by decide +kernel) (fun _ => rfl) (fun _ => rfl) (fun r_4 a_over_3 H locs hw hP hD hS => ?_)
    try dsimp only at hw
    have hP : va_P G.1 vwCl (wd_X10_stateSum G h_this h_now h_history h_over h_order h_colors h_row h_three h_seen h_group f_edits f_total a_now a_over_3 a_colors) H := hP
    have hD : va_D A (wd_X10_stateSum G h_this h_now h_history h_over h_order h_colors h_row h_three h_seen h_group f_edits f_total a_now a_over_3 a_colors) := hD
    refine lv_bipush (v := (-4)) hx hb dX10_stateSum_23 (by decide) ?_
    refine lv_icmp_eq (tgt := 31) hx hb dX10_stateSum_25 (by decide) (fun c_5 => ?_) (fun c_5 => ?_)
    · have hw := hw.1 c_5
      refine lv_iconst (v := 0) hx hb dX10_stateSum_31 (by decide) ?_
      refine lv_istore_n (lv' := [(2, .int 0), (0, .ref h_this), (1, .int x1)]) hx hb dX10_stateSum_32 rfl hl (by decide) rfl (fun ls hl => ?_)
      refine lv_aload_n hx hb dX10_stateSum_33 rfl (lv_at hl 1 rfl) ?_
      have hC9 : ([0, 1]).map (fun i => (wd_X10_stateSum G h_this h_now h_history h_over h_order h_colors h_row h_three h_seen h_group f_edits f_total a_now a_over_3 a_colors)[i]?) = (wd_X10_codes G h_this h_now h_history h_over h_order h_colors h_row h_three h_seen h_group f_edits f_total a_now).map some := rfl
      refine qn_callI (wd := (fun u : Unit => wd_X10_stateSum G h_this h_now h_history h_over h_order h_colors h_row h_three h_seen h_group f_edits f_total a_now a_over_3 a_colors)) [0, 1] (va_runV (As := []) (rest := []) ⟨hx, hb, hml, hown, hts⟩ (c_X10_codes G _ h_this h_now h_history h_over h_order h_colors h_row h_three h_seen h_group f_edits f_total a_now hw) (cwV 0 hts gX10_stateSum_X10_codes rfl rfl rfl (by decide +kernel) ⟨Nat.le_of_ble_eq_true rfl, Nat.le_of_ble_eq_true rfl⟩) (qn_preV hE hP hD [0, 1] hC9 (by decide +kernel) (ci := 10) rfl rfl) rfl rfl hl.1 rfl (lv_room (Nat.le_of_ble_eq_true rfl)) dX10_stateSum_34 ⟨Nat.le_of_ble_eq_true rfl, Nat.le_of_ble_eq_true rfl⟩) hP hD hS hA hC9 [some 0, some 1, none, none] (M := 4) rfl (by decide +kernel) (fun _ => rfl) (fun _ => rfl) (fun r_6 _ H locs hw hP hD hS => ?_)
      try dsimp only at hw
      have hP : va_P G.1 vwCl (wd_X10_stateSum G h_this h_now h_history h_over h_order h_colors h_row h_three h_seen h_group f_edits f_total a_now a_over_3 a_colors) H := hP
      have hD : va_D A (wd_X10_stateSum G h_this h_now h_history h_over h_order h_colors h_row h_three h_seen h_group f_edits f_total a_now a_over_3 a_colors) := hD
      refine lv_istore_n (lv' := [(3, .int r_6), (2, .int 0), (0, .ref h_this), (1, .int x1)]) hx hb dX10_stateSum_37 rfl hl (by decide) rfl (fun ls hl => ?_)
      refine lv_iconst (v := 0) hx hb dX10_stateSum_38 (by decide) ?_
      refine lv_istore (lv' := [(4, .int 0), (3, .int r_6), (2, .int 0), (0, .ref h_this), (1, .int x1)]) hx hb dX10_stateSum_39 hl (by decide) rfl (fun ls hl => ?_)
      obtain ⟨fu_23, hw⟩ := hw
      refine l_X10_stateSum_41 (post := post) C0 hE hA (fun x2_20 f_total_21 a_colors_22 hw H locs ls hP hD hS hl => ?_) fu_23 0 0 f_total a_colors hw _ _ _ hP hD hS (lv_sub hl [3, 4, 2, 1, 0] rfl)
      refine lv_iload_n hx hb dX10_stateSum_78 rfl (lv_at hl 0 rfl) ?_
      exact W.iret (v := x2_20) hx hb hr (fun t ht hW => ⟨⟨x2_20, (f_total_21, a_over_3, a_colors_22), rfl, hw, by rw [ht]; exact hP, hD⟩, hS.F ht⟩) hS.2.2 dX10_stateSum_79
    · have hw := hw.2 c_5
      refine lv_bipush (v := (-2)) hx hb dX10_stateSum_28 (by decide) ?_
      exact W.iret (v := (-2)) hx hb hr (fun t ht hW => ⟨⟨(-2), (f_total, a_over_3, a_colors), rfl, hw, by rw [ht]; exact hP, hD⟩, hS.F ht⟩) hS.2.2 dX10_stateSum_30
  · have hw := hw.2 c_2
    refine lv_iconst (v := (-1)) hx hb dX10_stateSum_17 (by decide) ?_
    exact W.iret (v := (-1)) hx hb hr (fun t ht hW => ⟨⟨(-1), (f_total, a_over, a_colors), rfl, hw, by rw [ht]; exact hP, hD⟩, hS.F ht⟩) hS.2.2 dX10_stateSum_18
