-- QuandleColorings$Grid.holds(II)Z
abbrev rm_X2_holds : Room := { frames := 0, cells := 0, slots := 0, locals := 0 }
abbrev wd_X2_holds (G : qn_G) : va_W := []
def wp_X2_holds (post : Int32 → Prop) (x0 : Int32) (x1 : Int32) : Prop := ((x0 < 0 → (post 0)) ∧ (¬ x0 < 0 → ((6 ≤ x0 → (post 0)) ∧ (¬ 6 ≤ x0 → ((x1 < 0 → (post 0)) ∧ (¬ x1 < 0 → ((6 ≤ x1 → (post 0)) ∧ (¬ 6 ≤ x1 → (post 1)))))))))
set_option maxHeartbeats 4000000 in
set_option maxRecDepth 100000 in
theorem c_X2_holds {l : Launch} (G : qn_G) (sz : Nat) (x0 : Int32) (x1 : Int32) {post : Int32 → Prop} (hw : wp_X2_holds post x0 x1) : Met l yX2_holds wsX2_holds rm_X2_holds (qn_PC G [.int x0, .int x1] sz (wd_X2_holds G)) (qn_QI G (fun (r : Int32) (u : Unit) => post r) (fun u : Unit => wd_X2_holds G) (va_A (wd_X2_holds G) sz)) 0 0 (va_A (wd_X2_holds G) sz) := by
  refine Met.ofW (cc := cX2_holds) (maxL := 2) (ret := (some .boolean)) (by decide) rfl ?_
  intro p e s m args below meth c s₁ B hml hv
  obtain ⟨rfl, hsz, hP, hE, hD0⟩ := hv
  have C0 : qn_C p m c cX2_holds 2 s _ wsX2_holds RX2 meth (some .boolean) := qn_C0 B hml
  obtain ⟨hx, hb, -, hown, hts, hr, hlocks⟩ := id C0
  subst hsz
  have hD := hD0.self (sz := s.heap.size)
  generalize hAe : va_A (wd_X2_holds G) s.heap.size = A at hD ⊢
  have hA : ∀ q : Nat, s.heap.size ≤ q → A q := fun q h => by rw [← hAe]; exact Or.inr h
  clear hAe
  have hS : va_S A s.heap s.heap [] := va_S.rf
  have hl := lv_entry ([.int x0, .int x1]) (n := 2) (Nat.le_of_ble_eq_true rfl)
  rw [lg_entry_eq]
  generalize (lg_sl ([.int x0, .int x1]) ++ List.replicate (2 - (lg_sl ([.int x0, .int x1])).length) Slot.unset).toArray = ls at hl ⊢
  have hl : lv_has ls 2 [(0, .int x0), (1, .int x1)] := hl
  have hP : va_P G.1 vwCl (wd_X2_holds G) s.heap := hP
  refine lv_iload_n hx hb dX2_holds_0 rfl (lv_at hl 0 rfl) ?_
  refine lv_if_lt (tgt := 24) hx hb dX2_holds_1 (by decide) (fun c_1 => ?_) (fun c_1 => ?_)
  · have hw := hw.1 c_1
    refine lv_iconst (v := 0) hx hb dX2_holds_24 (by decide) ?_
    exact W.zret (v := 0) hx hb hr (by decide) (fun t ht hW => ⟨⟨0, (), rfl, hw, by rw [ht]; exact hP, hD⟩, hS.F ht⟩) hS.2.2 dX2_holds_25
  · have hw := hw.2 c_1
    refine lv_iload_n hx hb dX2_holds_4 rfl (lv_at hl 0 rfl) ?_
    refine lv_bipush (v := 6) hx hb dX2_holds_5 (by decide) ?_
    refine lv_icmp_ge (tgt := 24) hx hb dX2_holds_7 (by decide) (fun c_2 => ?_) (fun c_2 => ?_)
    · have hw := hw.1 c_2
      refine lv_iconst (v := 0) hx hb dX2_holds_24 (by decide) ?_
      exact W.zret (v := 0) hx hb hr (by decide) (fun t ht hW => ⟨⟨0, (), rfl, hw, by rw [ht]; exact hP, hD⟩, hS.F ht⟩) hS.2.2 dX2_holds_25
    · have hw := hw.2 c_2
      refine lv_iload_n hx hb dX2_holds_10 rfl (lv_at hl 1 rfl) ?_
      refine lv_if_lt (tgt := 24) hx hb dX2_holds_11 (by decide) (fun c_3 => ?_) (fun c_3 => ?_)
      · have hw := hw.1 c_3
        refine lv_iconst (v := 0) hx hb dX2_holds_24 (by decide) ?_
        exact W.zret (v := 0) hx hb hr (by decide) (fun t ht hW => ⟨⟨0, (), rfl, hw, by rw [ht]; exact hP, hD⟩, hS.F ht⟩) hS.2.2 dX2_holds_25
      · have hw := hw.2 c_3
        refine lv_iload_n hx hb dX2_holds_14 rfl (lv_at hl 1 rfl) ?_
        refine lv_bipush (v := 6) hx hb dX2_holds_15 (by decide) ?_
        refine lv_icmp_ge (tgt := 24) hx hb dX2_holds_17 (by decide) (fun c_4 => ?_) (fun c_4 => ?_)
        · have hw := hw.1 c_4
          refine lv_iconst (v := 0) hx hb dX2_holds_24 (by decide) ?_
          exact W.zret (v := 0) hx hb hr (by decide) (fun t ht hW => ⟨⟨0, (), rfl, hw, by rw [ht]; exact hP, hD⟩, hS.F ht⟩) hS.2.2 dX2_holds_25
        · have hw := hw.2 c_4
          refine lv_iconst (v := 1) hx hb dX2_holds_20 (by decide) ?_
          refine lv_goto (tgt := 25) hx hb dX2_holds_21 (by decide) ?_
          exact W.zret (v := 1) hx hb hr (by decide) (fun t ht hW => ⟨⟨1, (), rfl, hw, by rw [ht]; exact hP, hD⟩, hS.F ht⟩) hS.2.2 dX2_holds_25
-- QuandleColorings$Grid.get(II)I
abbrev rm_X2_get : Room := { frames := 1, cells := 0, slots := 0, locals := 21 }
abbrev wd_X2_get (G : qn_G) (h_this h_cells : Nat) (a_cells : Nat → Int32) : va_W := [(h_this, .inr (2, [.ref h_cells])), (h_cells, .inl (G.2.1, 36, .inl a_cells))]
theorem in_X2_get_X2 : ∀ w ∈ u_ws RX2 TX2 1, w ∈ wsX2_get := by decide +kernel
theorem lk_X2_get_9 : Cond.fieldLink RX2 9 "QuandleColorings$Grid" "cells" "[I" ∈ wsX2_get := by decide +kernel
def wp_X2_get (post : Int32 → Prop) (a_cells : Nat → Int32) (x1 : Int32) (x2 : Int32) : Prop := (wp_X2_holds (fun (r_1 : Int32) => ((r_1 = 0 → (post 0)) ∧ (¬ r_1 = 0 → (vp_in ((6 * x1) + x2) 36 ∧ (post (a_cells ((6 * x1) + x2).toNatClampNeg)))))) x1 x2)
set_option maxHeartbeats 4000000 in
set_option maxRecDepth 100000 in
theorem c_X2_get {l : Launch} (G : qn_G) (sz : Nat) (h_this h_cells : Nat) (a_cells : Nat → Int32) (x1 : Int32) (x2 : Int32) {post : Int32 → Prop} (hw : wp_X2_get post a_cells x1 x2) : Met l yX2_get wsX2_get rm_X2_get (qn_PC G [.ref h_this, .int x1, .int x2] sz (wd_X2_get G h_this h_cells a_cells)) (qn_QI G (fun (r : Int32) (u : Unit) => post r) (fun u : Unit => wd_X2_get G h_this h_cells a_cells) (va_A (wd_X2_get G h_this h_cells a_cells) sz)) 0 0 (va_A (wd_X2_get G h_this h_cells a_cells) sz) := by
  refine Met.ofW (cc := cX2_get) (maxL := 3) (ret := (some .int)) (by decide) rfl ?_
  intro p e s m args below meth c s₁ B hml hv
  obtain ⟨rfl, hsz, hP, hE, hD0⟩ := hv
  have C0 : qn_C p m c cX2_get 3 s _ wsX2_get RX2 meth (some .int) := qn_C0 B hml
  obtain ⟨hx, hb, -, hown, hts, hr, hlocks⟩ := id C0
  subst hsz
  have hD := hD0.self (sz := s.heap.size)
  generalize hAe : va_A (wd_X2_get G h_this h_cells a_cells) s.heap.size = A at hD ⊢
  have hA : ∀ q : Nat, s.heap.size ≤ q → A q := fun q h => by rw [← hAe]; exact Or.inr h
  clear hAe
  have hS : va_S A s.heap s.heap [] := va_S.rf
  have hl := lv_entry ([.ref h_this, .int x1, .int x2]) (n := 3) (Nat.le_of_ble_eq_true rfl)
  rw [lg_entry_eq]
  generalize (lg_sl ([.ref h_this, .int x1, .int x2]) ++ List.replicate (3 - (lg_sl ([.ref h_this, .int x1, .int x2])).length) Slot.unset).toArray = ls at hl ⊢
  have hl : lv_has ls 3 [(0, .ref h_this), (1, .int x1), (2, .int x2)] := hl
  have hP : va_P G.1 vwCl (wd_X2_get G h_this h_cells a_cells) s.heap := hP
  refine lv_iload_n hx hb dX2_get_0 rfl (lv_at hl 1 rfl) ?_
  refine lv_iload_n hx hb dX2_get_1 rfl (lv_at hl 2 rfl) ?_
  have hC9 : ([] : List Nat).map (fun i => (wd_X2_get G h_this h_cells a_cells)[i]?) = (wd_X2_holds G).map some := rfl
  refine qn_callI (wd := (fun u : Unit => wd_X2_get G h_this h_cells a_cells)) [] (va_runS (As := [.int x1, .int x2]) (rest := []) ⟨hx, hb, hml, hown, hts⟩ (c_X2_holds G _ x1 x2 hw) (va_cwS 2 hts gX2_get_X2_holds rfl rfl rfl (by decide +kernel) ⟨Nat.le_of_ble_eq_true rfl, Nat.le_of_ble_eq_true rfl⟩) (qn_preS hE hP hD [] hC9 (by decide +kernel)) rfl rfl hl.1 rfl (lv_room (Nat.le_of_ble_eq_true rfl)) dX2_get_2 ⟨Nat.le_of_ble_eq_true rfl, Nat.le_of_ble_eq_true rfl⟩) hP hD hS hA hC9 [none, none] (M := 2) rfl (by decide +kernel) (fun _ => rfl) (fun _ => rfl) (fun r_1 _ H locs hw hP hD hS => ?_)
  try dsimp only at hw
  have hP : va_P G.1 vwCl (wd_X2_get G h_this h_cells a_cells) H := hP
  have hD : va_D A (wd_X2_get G h_this h_cells a_cells) := hD
  refine lv_if_eq (tgt := 22) hx hb dX2_get_5 (by decide) (fun c_2 => ?_) (fun c_2 => ?_)
  · have hw := hw.1 c_2
    refine lv_iconst (v := 0) hx hb dX2_get_22 (by decide) ?_
    exact W.iret (v := 0) hx hb hr (fun t ht hW => ⟨⟨0, (), rfl, hw, by rw [ht]; exact hP, hD⟩, hS.F ht⟩) hS.2.2 dX2_get_23
  · have hw := hw.2 c_2
    refine lv_aload_n hx hb dX2_get_8 rfl (lv_at hl 0 rfl) ?_
    refine va_get (D := G.1) (ci := 2) (v := .ref h_cells) (C := RX2) (T := TX2) (N := 1) hx hb hts in_X2_get_X2 hown hE.1 hP 0 rfl rfl 0 (by decide) (hts (.fieldLink RX2 9 "QuandleColorings$Grid" "cells" "[I") lk_X2_get_9) (fun _ h9 => h9) rfl dX2_get_9 ?_
    refine lv_bipush (v := 6) hx hb dX2_get_12 (by decide) ?_
    refine lv_iload_n hx hb dX2_get_14 rfl (lv_at hl 1 rfl) ?_
    refine lv_imul hx hb dX2_get_15 ?_
    refine lv_iload_n hx hb dX2_get_16 rfl (lv_at hl 2 rfl) ?_
    refine lv_iadd hx hb dX2_get_17 ?_
    have hin := hw.1
    have hw := hw.2
    refine va_iald hx hb hE.1 hP 1 0 rfl rfl hin dX2_get_18 ?_
    refine lv_goto (tgt := 23) hx hb dX2_get_19 (by decide) ?_
    exact W.iret (v := (a_cells ((6 * x1) + x2).toNatClampNeg)) hx hb hr (fun t ht hW => ⟨⟨(a_cells ((6 * x1) + x2).toNatClampNeg), (), rfl, hw, by rw [ht]; exact hP, hD⟩, hS.F ht⟩) hS.2.2 dX2_get_23
-- QuandleColorings$Grid.put(III)V
abbrev rm_X2_put : Room := { frames := 1, cells := 0, slots := 0, locals := 21 }
abbrev wd_X2_put (G : qn_G) (h_this h_cells : Nat) (a_cells : Nat → Int32) : va_W := [(h_this, .inr (2, [.ref h_cells])), (h_cells, .inl (G.2.1, 36, .inl a_cells))]
theorem in_X2_put_X2 : ∀ w ∈ u_ws RX2 TX2 1, w ∈ wsX2_put := by decide +kernel
theorem lk_X2_put_9 : Cond.fieldLink RX2 9 "QuandleColorings$Grid" "cells" "[I" ∈ wsX2_put := by decide +kernel
def wp_X2_put (post : (Nat → Int32) → Prop) (a_cells : Nat → Int32) (x1 : Int32) (x2 : Int32) (x3 : Int32) : Prop := (wp_X2_holds (fun (r_1 : Int32) => ((r_1 = 0 → (post a_cells)) ∧ (¬ r_1 = 0 → (vp_in ((6 * x1) + x2) 36 ∧ (∀ a_cells_3 : Nat → Int32, a_cells_3 = upd a_cells ((6 * x1) + x2).toNatClampNeg x3 → (post a_cells_3)))))) x1 x2)
set_option maxHeartbeats 4000000 in
set_option maxRecDepth 100000 in
theorem c_X2_put {l : Launch} (G : qn_G) (sz : Nat) (h_this h_cells : Nat) (a_cells : Nat → Int32) (x1 : Int32) (x2 : Int32) (x3 : Int32) {post : (Nat → Int32) → Prop} (hw : wp_X2_put post a_cells x1 x2 x3) : Met l yX2_put wsX2_put rm_X2_put (qn_PC G [.ref h_this, .int x1, .int x2, .int x3] sz (wd_X2_put G h_this h_cells a_cells)) (qn_QV G (fun (u : (Nat → Int32)) => post u) (fun u : (Nat → Int32) => wd_X2_put G h_this h_cells u) (va_A (wd_X2_put G h_this h_cells a_cells) sz)) 0 0 (va_A (wd_X2_put G h_this h_cells a_cells) sz) := by
  refine Met.ofW (cc := cX2_put) (maxL := 4) (ret := none) (by decide) rfl ?_
  intro p e s m args below meth c s₁ B hml hv
  obtain ⟨rfl, hsz, hP, hE, hD0⟩ := hv
  have C0 : qn_C p m c cX2_put 4 s _ wsX2_put RX2 meth none := qn_C0 B hml
  obtain ⟨hx, hb, -, hown, hts, hr, hlocks⟩ := id C0
  subst hsz
  have hD := hD0.self (sz := s.heap.size)
  generalize hAe : va_A (wd_X2_put G h_this h_cells a_cells) s.heap.size = A at hD ⊢
  have hA : ∀ q : Nat, s.heap.size ≤ q → A q := fun q h => by rw [← hAe]; exact Or.inr h
  clear hAe
  have hS : va_S A s.heap s.heap [] := va_S.rf
  have hl := lv_entry ([.ref h_this, .int x1, .int x2, .int x3]) (n := 4) (Nat.le_of_ble_eq_true rfl)
  rw [lg_entry_eq]
  generalize (lg_sl ([.ref h_this, .int x1, .int x2, .int x3]) ++ List.replicate (4 - (lg_sl ([.ref h_this, .int x1, .int x2, .int x3])).length) Slot.unset).toArray = ls at hl ⊢
  have hl : lv_has ls 4 [(0, .ref h_this), (1, .int x1), (2, .int x2), (3, .int x3)] := hl
  have hP : va_P G.1 vwCl (wd_X2_put G h_this h_cells a_cells) s.heap := hP
  refine lv_iload_n hx hb dX2_put_0 rfl (lv_at hl 1 rfl) ?_
  refine lv_iload_n hx hb dX2_put_1 rfl (lv_at hl 2 rfl) ?_
  have hC9 : ([] : List Nat).map (fun i => (wd_X2_put G h_this h_cells a_cells)[i]?) = (wd_X2_holds G).map some := rfl
  refine qn_callI (wd := (fun u : Unit => wd_X2_put G h_this h_cells a_cells)) [] (va_runS (As := [.int x1, .int x2]) (rest := []) ⟨hx, hb, hml, hown, hts⟩ (c_X2_holds G _ x1 x2 hw) (va_cwS 2 hts gX2_put_X2_holds rfl rfl rfl (by decide +kernel) ⟨Nat.le_of_ble_eq_true rfl, Nat.le_of_ble_eq_true rfl⟩) (qn_preS hE hP hD [] hC9 (by decide +kernel)) rfl rfl hl.1 rfl (lv_room (Nat.le_of_ble_eq_true rfl)) dX2_put_2 ⟨Nat.le_of_ble_eq_true rfl, Nat.le_of_ble_eq_true rfl⟩) hP hD hS hA hC9 [none, none] (M := 2) rfl (by decide +kernel) (fun _ => rfl) (fun _ => rfl) (fun r_1 _ H locs hw hP hD hS => ?_)
  try dsimp only at hw
  have hP : va_P G.1 vwCl (wd_X2_put G h_this h_cells a_cells) H := hP
  have hD : va_D A (wd_X2_put G h_this h_cells a_cells) := hD
  refine lv_if_eq (tgt := 20) hx hb dX2_put_5 (by decide) (fun c_2 => ?_) (fun c_2 => ?_)
  · have hw := hw.1 c_2
    exact W.vret hx hb hr (fun t ht hW => ⟨⟨a_cells, rfl, hw, by rw [ht]; exact hP, hD⟩, hS.F ht⟩) hS.2.2 dX2_put_20
  · have hw := hw.2 c_2
    refine lv_aload_n hx hb dX2_put_8 rfl (lv_at hl 0 rfl) ?_
    refine va_get (D := G.1) (ci := 2) (v := .ref h_cells) (C := RX2) (T := TX2) (N := 1) hx hb hts in_X2_put_X2 hown hE.1 hP 0 rfl rfl 0 (by decide) (hts (.fieldLink RX2 9 "QuandleColorings$Grid" "cells" "[I") lk_X2_put_9) (fun _ h9 => h9) rfl dX2_put_9 ?_
    refine lv_bipush (v := 6) hx hb dX2_put_12 (by decide) ?_
    refine lv_iload_n hx hb dX2_put_14 rfl (lv_at hl 1 rfl) ?_
    refine lv_imul hx hb dX2_put_15 ?_
    refine lv_iload_n hx hb dX2_put_16 rfl (lv_at hl 2 rfl) ?_
    refine lv_iadd hx hb dX2_put_17 ?_
    refine lv_iload_n hx hb dX2_put_18 rfl (lv_at hl 3 rfl) ?_
    have hin := hw.1
    have hw := hw.2
    obtain ⟨a_cells_3, ea_cells_3⟩ : ∃ y : Nat → Int32, y = upd a_cells ((6 * x1) + x2).toNatClampNeg x3 := ⟨_, rfl⟩
    have hw := hw a_cells_3 ea_cells_3
    refine va_iast hx hb hE.1 hP hD hS 1 0 rfl rfl hin dX2_put_19 (fun H locs hP hD hS => ?_)
    rw [← ea_cells_3] at hP hD
    have hP : va_P G.1 vwCl (wd_X2_put G h_this h_cells a_cells_3) H := hP
    have hD : va_D A (wd_X2_put G h_this h_cells a_cells_3) := hD
    exact W.vret hx hb hr (fun t ht hW => ⟨⟨a_cells_3, rfl, hw, by rw [ht]; exact hP, hD⟩, hS.F ht⟩) hS.2.2 dX2_put_20
-- QuandleColorings$Grid.clear()V
abbrev rm_X2_clear : Room := { frames := 0, cells := 0, slots := 0, locals := 0 }
abbrev wd_X2_clear (G : qn_G) (h_this h_cells : Nat) (a_cells : Nat → Int32) : va_W := [(h_this, .inr (2, [.ref h_cells])), (h_cells, .inl (G.2.1, 36, .inl a_cells))]
theorem in_X2_clear_X2 : ∀ w ∈ u_ws RX2 TX2 1, w ∈ wsX2_clear := by decide +kernel
theorem lk_X2_clear_9 : Cond.fieldLink RX2 9 "QuandleColorings$Grid" "cells" "[I" ∈ wsX2_clear := by decide +kernel
def wp_X2_clear_L2 (KL2 : (Nat → Int32) → Prop) : Nat → Int32 → (Nat → Int32) → Prop
  | 0 => fun _ _ => False
  | fu + 1 => fun x1 a_cells => ((36 ≤ x1 → (KL2 a_cells)) ∧ (¬ 36 ≤ x1 → (vp_in x1 36 ∧ (∀ a_cells_2 : Nat → Int32, a_cells_2 = upd a_cells x1.toNatClampNeg 0 → (∀ x1_3 : Int32, x1_3 = x1 + 1 → ((wp_X2_clear_L2 KL2 fu) x1_3 a_cells_2))))))
def wp_X2_clear (post : (Nat → Int32) → Prop) (a_cells : Nat → Int32) : Prop := (∃ fu_5 : Nat, wp_X2_clear_L2 (fun (a_cells_4 : Nat → Int32) => (post a_cells_4)) fu_5 0 a_cells)
set_option maxHeartbeats 4000000 in
set_option maxRecDepth 100000 in
theorem l_X2_clear_2 {p : Program} {l : Launch} {e : Env} {s : State} {m : MethodId} {args : Array Value} {below : List Frame} {meth : Method} {c : Code} {G : qn_G} {A : Nat → Prop} {h_this h_cells : Nat} {post : (Nat → Int32) → Prop} {KL2 : (Nat → Int32) → Prop} (C0 : qn_C p m c cX2_clear 2 s args wsX2_clear RX2 meth none) (hE : qn_EV G s) (hA : ∀ q, s.heap.size ≤ q → A q) (hKc : ∀ (a_cells : Nat → Int32), KL2 a_cells → ∀ (H : Heap) (locs : List Loc) (ls : Array Slot), va_P G.1 vwCl (wd_X2_clear G h_this h_cells a_cells) H → va_D A (wd_X2_clear G h_this h_cells a_cells) → va_S A s.heap H locs → lv_has ls 2 [] → W p l e (headSpec wsX2_clear rm_X2_clear).room s m args below meth c H locs 0 0 (MQ below (qn_QV G (fun (u : (Nat → Int32)) => post u) (fun u : (Nat → Int32) => wd_X2_clear G h_this h_cells u) A) args s 0 0 A) (F0 m 21 ls [])) :
    ∀ (fu : Nat) (x1 : Int32) (a_cells : Nat → Int32), wp_X2_clear_L2 KL2 fu x1 a_cells → ∀ (H : Heap) (locs : List Loc) (ls : Array Slot), va_P G.1 vwCl (wd_X2_clear G h_this h_cells a_cells) H → va_D A (wd_X2_clear G h_this h_cells a_cells) → va_S A s.heap H locs → lv_has ls 2 [(0, .ref h_this), (1, .int x1)] → W p l e (headSpec wsX2_clear rm_X2_clear).room s m args below meth c H locs 0 0 (MQ below (qn_QV G (fun (u : (Nat → Int32)) => post u) (fun u : (Nat → Int32) => wd_X2_clear G h_this h_cells u) A) args s 0 0 A) (F0 m 2 ls []) := by
  obtain ⟨hx, hb, hml, hown, hts, hr, hlocks⟩ := id C0
  intro fu
  induction fu with
  | zero => intro x1 a_cells hw; exact hw.elim
  | succ fu ih =>
    intro x1 a_cells hw H locs ls hP hD hS hl
    refine lv_iload_n hx hb dX2_clear_2 rfl (lv_at hl 1 rfl) ?_
    refine lv_bipush (v := 36) hx hb dX2_clear_3 (by decide) ?_
    refine lv_icmp_ge (tgt := 21) hx hb dX2_clear_5 (by decide) (fun c_1 => ?_) (fun c_1 => ?_)
    · have hw := hw.1 c_1
      exact hKc a_cells hw _ _ _ hP hD hS (lv_sub hl [] rfl)
    · have hw := hw.2 c_1
      refine lv_aload_n hx hb dX2_clear_8 rfl (lv_at hl 0 rfl) ?_
      refine va_get (D := G.1) (ci := 2) (v := .ref h_cells) (C := RX2) (T := TX2) (N := 1) hx hb hts in_X2_clear_X2 hown hE.1 hP 0 rfl rfl 0 (by decide) (hts (.fieldLink RX2 9 "QuandleColorings$Grid" "cells" "[I") lk_X2_clear_9) (fun _ h9 => h9) rfl dX2_clear_9 ?_
      refine lv_iload_n hx hb dX2_clear_12 rfl (lv_at hl 1 rfl) ?_
      refine lv_iconst (v := 0) hx hb dX2_clear_13 (by decide) ?_
      have hin := hw.1
      have hw := hw.2
      obtain ⟨a_cells_2, ea_cells_2⟩ : ∃ y : Nat → Int32, y = upd a_cells x1.toNatClampNeg 0 := ⟨_, rfl⟩
      have hw := hw a_cells_2 ea_cells_2
      refine va_iast hx hb hE.1 hP hD hS 1 0 rfl rfl hin dX2_clear_14 (fun H locs hP hD hS => ?_)
      rw [← ea_cells_2] at hP hD
      have hP : va_P G.1 vwCl (wd_X2_clear G h_this h_cells a_cells_2) H := hP
      have hD : va_D A (wd_X2_clear G h_this h_cells a_cells_2) := hD
      obtain ⟨x1_3, ex1_3⟩ : ∃ y : Int32, y = x1 + 1 := ⟨_, rfl⟩
      have hw := hw x1_3 ex1_3
      refine lv_iinc (v := x1_3) (lv' := [(1, .int x1_3), (0, .ref h_this)]) hx hb dX2_clear_15 hl (k := 1) rfl (by rw [ex1_3]; rfl) (by decide) rfl (fun ls hl => ?_)
      refine lv_goto (tgt := 2) hx hb dX2_clear_18 (by decide) ?_
      exact ih x1_3 a_cells_2 hw _ _ _ hP hD hS (lv_sub hl [1, 0] rfl)
set_option maxHeartbeats 4000000 in
set_option maxRecDepth 100000 in
theorem c_X2_clear {l : Launch} (G : qn_G) (sz : Nat) (h_this h_cells : Nat) (a_cells : Nat → Int32) {post : (Nat → Int32) → Prop} (hw : wp_X2_clear post a_cells) : Met l yX2_clear wsX2_clear rm_X2_clear (qn_PC G [.ref h_this] sz (wd_X2_clear G h_this h_cells a_cells)) (qn_QV G (fun (u : (Nat → Int32)) => post u) (fun u : (Nat → Int32) => wd_X2_clear G h_this h_cells u) (va_A (wd_X2_clear G h_this h_cells a_cells) sz)) 0 0 (va_A (wd_X2_clear G h_this h_cells a_cells) sz) := by
  refine Met.ofW (cc := cX2_clear) (maxL := 2) (ret := none) (by decide) rfl ?_
  intro p e s m args below meth c s₁ B hml hv
  obtain ⟨rfl, hsz, hP, hE, hD0⟩ := hv
  have C0 : qn_C p m c cX2_clear 2 s _ wsX2_clear RX2 meth none := qn_C0 B hml
  obtain ⟨hx, hb, -, hown, hts, hr, hlocks⟩ := id C0
  subst hsz
  have hD := hD0.self (sz := s.heap.size)
  generalize hAe : va_A (wd_X2_clear G h_this h_cells a_cells) s.heap.size = A at hD ⊢
  have hA : ∀ q : Nat, s.heap.size ≤ q → A q := fun q h => by rw [← hAe]; exact Or.inr h
  clear hAe
  have hS : va_S A s.heap s.heap [] := va_S.rf
  have hl := lv_entry ([.ref h_this]) (n := 2) (Nat.le_of_ble_eq_true rfl)
  rw [lg_entry_eq]
  generalize (lg_sl ([.ref h_this]) ++ List.replicate (2 - (lg_sl ([.ref h_this])).length) Slot.unset).toArray = ls at hl ⊢
  have hl : lv_has ls 2 [(0, .ref h_this)] := hl
  have hP : va_P G.1 vwCl (wd_X2_clear G h_this h_cells a_cells) s.heap := hP
  refine lv_iconst (v := 0) hx hb dX2_clear_0 (by decide) ?_
  refine lv_istore_n (lv' := [(1, .int 0), (0, .ref h_this)]) hx hb dX2_clear_1 rfl hl (by decide) rfl (fun ls hl => ?_)
  obtain ⟨fu_5, hw⟩ := hw
  refine l_X2_clear_2 (post := post) C0 hE hA (fun a_cells_4 hw H locs ls hP hD hS hl => ?_) fu_5 0 a_cells hw _ _ _ hP hD hS (lv_sub hl [1, 0] rfl)
  exact W.vret hx hb hr (fun t ht hW => ⟨⟨a_cells_4, rfl, hw, by rw [ht]; exact hP, hD⟩, hS.F ht⟩) hS.2.2 dX2_clear_21
-- QuandleColorings$Grid.copyFrom(LQuandleColorings$Grid;)V
abbrev rm_X2_copyFrom : Room := { frames := 0, cells := 0, slots := 0, locals := 0 }
abbrev wd_X2_copyFrom (G : qn_G) (h_this h_cells h_o1 h_o1_cells : Nat) (a_cells : Nat → Int32) (a_o1_cells : Nat → Int32) : va_W := [(h_this, .inr (2, [.ref h_cells])), (h_cells, .inl (G.2.1, 36, .inl a_cells)), (h_o1, .inr (2, [.ref h_o1_cells])), (h_o1_cells, .inl (G.2.1, 36, .inl a_o1_cells))]
theorem in_X2_copyFrom_X2 : ∀ w ∈ u_ws RX2 TX2 1, w ∈ wsX2_copyFrom := by decide +kernel
theorem lk_X2_copyFrom_9 : Cond.fieldLink RX2 9 "QuandleColorings$Grid" "cells" "[I" ∈ wsX2_copyFrom := by decide +kernel
def wp_X2_copyFrom_L2 (KL2 : (Nat → Int32) → Prop) (a_o1_cells : Nat → Int32) : Nat → Int32 → (Nat → Int32) → Prop
  | 0 => fun _ _ => False
  | fu + 1 => fun x2 a_cells => ((36 ≤ x2 → (KL2 a_cells)) ∧ (¬ 36 ≤ x2 → (vp_in x2 36 ∧ (vp_in x2 36 ∧ (∀ a_cells_2 : Nat → Int32, a_cells_2 = upd a_cells x2.toNatClampNeg (a_o1_cells x2.toNatClampNeg) → (∀ x2_3 : Int32, x2_3 = x2 + 1 → ((wp_X2_copyFrom_L2 KL2 a_o1_cells fu) x2_3 a_cells_2)))))))
def wp_X2_copyFrom (post : (Nat → Int32) → Prop) (a_cells : Nat → Int32) (a_o1_cells : Nat → Int32) : Prop := (∃ fu_5 : Nat, wp_X2_copyFrom_L2 (fun (a_cells_4 : Nat → Int32) => (post a_cells_4)) a_o1_cells fu_5 0 a_cells)
set_option maxHeartbeats 4000000 in
set_option maxRecDepth 100000 in
theorem l_X2_copyFrom_2 {p : Program} {l : Launch} {e : Env} {s : State} {m : MethodId} {args : Array Value} {below : List Frame} {meth : Method} {c : Code} {G : qn_G} {A : Nat → Prop} {h_this h_cells h_o1 h_o1_cells : Nat} {a_o1_cells : Nat → Int32} {post : (Nat → Int32) → Prop} {KL2 : (Nat → Int32) → Prop} (C0 : qn_C p m c cX2_copyFrom 3 s args wsX2_copyFrom RX2 meth none) (hE : qn_EV G s) (hA : ∀ q, s.heap.size ≤ q → A q) (hKc : ∀ (a_cells : Nat → Int32), KL2 a_cells → ∀ (H : Heap) (locs : List Loc) (ls : Array Slot), va_P G.1 vwCl (wd_X2_copyFrom G h_this h_cells h_o1 h_o1_cells a_cells a_o1_cells) H → va_D A (wd_X2_copyFrom G h_this h_cells h_o1 h_o1_cells a_cells a_o1_cells) → va_S A s.heap H locs → lv_has ls 3 [] → W p l e (headSpec wsX2_copyFrom rm_X2_copyFrom).room s m args below meth c H locs 0 0 (MQ below (qn_QV G (fun (u : (Nat → Int32)) => post u) (fun u : (Nat → Int32) => wd_X2_copyFrom G h_this h_cells h_o1 h_o1_cells u a_o1_cells) A) args s 0 0 A) (F0 m 26 ls [])) :
    ∀ (fu : Nat) (x2 : Int32) (a_cells : Nat → Int32), wp_X2_copyFrom_L2 KL2 a_o1_cells fu x2 a_cells → ∀ (H : Heap) (locs : List Loc) (ls : Array Slot), va_P G.1 vwCl (wd_X2_copyFrom G h_this h_cells h_o1 h_o1_cells a_cells a_o1_cells) H → va_D A (wd_X2_copyFrom G h_this h_cells h_o1 h_o1_cells a_cells a_o1_cells) → va_S A s.heap H locs → lv_has ls 3 [(0, .ref h_this), (1, .ref h_o1), (2, .int x2)] → W p l e (headSpec wsX2_copyFrom rm_X2_copyFrom).room s m args below meth c H locs 0 0 (MQ below (qn_QV G (fun (u : (Nat → Int32)) => post u) (fun u : (Nat → Int32) => wd_X2_copyFrom G h_this h_cells h_o1 h_o1_cells u a_o1_cells) A) args s 0 0 A) (F0 m 2 ls []) := by
  obtain ⟨hx, hb, hml, hown, hts, hr, hlocks⟩ := id C0
  intro fu
  induction fu with
  | zero => intro x2 a_cells hw; exact hw.elim
  | succ fu ih =>
    intro x2 a_cells hw H locs ls hP hD hS hl
    refine lv_iload_n hx hb dX2_copyFrom_2 rfl (lv_at hl 2 rfl) ?_
    refine lv_bipush (v := 36) hx hb dX2_copyFrom_3 (by decide) ?_
    refine lv_icmp_ge (tgt := 26) hx hb dX2_copyFrom_5 (by decide) (fun c_1 => ?_) (fun c_1 => ?_)
    · have hw := hw.1 c_1
      exact hKc a_cells hw _ _ _ hP hD hS (lv_sub hl [] rfl)
    · have hw := hw.2 c_1
      refine lv_aload_n hx hb dX2_copyFrom_8 rfl (lv_at hl 0 rfl) ?_
      refine va_get (D := G.1) (ci := 2) (v := .ref h_cells) (C := RX2) (T := TX2) (N := 1) hx hb hts in_X2_copyFrom_X2 hown hE.1 hP 0 rfl rfl 0 (by decide) (hts (.fieldLink RX2 9 "QuandleColorings$Grid" "cells" "[I") lk_X2_copyFrom_9) (fun _ h9 => h9) rfl dX2_copyFrom_9 ?_
      refine lv_iload_n hx hb dX2_copyFrom_12 rfl (lv_at hl 2 rfl) ?_
      refine lv_aload_n hx hb dX2_copyFrom_13 rfl (lv_at hl 1 rfl) ?_
      refine va_get (D := G.1) (ci := 2) (v := .ref h_o1_cells) (C := RX2) (T := TX2) (N := 1) hx hb hts in_X2_copyFrom_X2 hown hE.1 hP 2 rfl rfl 0 (by decide) (hts (.fieldLink RX2 9 "QuandleColorings$Grid" "cells" "[I") lk_X2_copyFrom_9) (fun _ h9 => h9) rfl dX2_copyFrom_14 ?_
      refine lv_iload_n hx hb dX2_copyFrom_17 rfl (lv_at hl 2 rfl) ?_
      have hin := hw.1
      have hw := hw.2
      refine va_iald hx hb hE.1 hP 3 0 rfl rfl hin dX2_copyFrom_18 ?_
      have hin := hw.1
      have hw := hw.2
      obtain ⟨a_cells_2, ea_cells_2⟩ : ∃ y : Nat → Int32, y = upd a_cells x2.toNatClampNeg (a_o1_cells x2.toNatClampNeg) := ⟨_, rfl⟩
      have hw := hw a_cells_2 ea_cells_2
      refine va_iast hx hb hE.1 hP hD hS 1 0 rfl rfl hin dX2_copyFrom_19 (fun H locs hP hD hS => ?_)
      rw [← ea_cells_2] at hP hD
      have hP : va_P G.1 vwCl (wd_X2_copyFrom G h_this h_cells h_o1 h_o1_cells a_cells_2 a_o1_cells) H := hP
      have hD : va_D A (wd_X2_copyFrom G h_this h_cells h_o1 h_o1_cells a_cells_2 a_o1_cells) := hD
      obtain ⟨x2_3, ex2_3⟩ : ∃ y : Int32, y = x2 + 1 := ⟨_, rfl⟩
      have hw := hw x2_3 ex2_3
      refine lv_iinc (v := x2_3) (lv' := [(2, .int x2_3), (0, .ref h_this), (1, .ref h_o1)]) hx hb dX2_copyFrom_20 hl (k := 2) rfl (by rw [ex2_3]; rfl) (by decide) rfl (fun ls hl => ?_)
      refine lv_goto (tgt := 2) hx hb dX2_copyFrom_23 (by decide) ?_
      exact ih x2_3 a_cells_2 hw _ _ _ hP hD hS (lv_sub hl [1, 2, 0] rfl)
set_option maxHeartbeats 4000000 in
set_option maxRecDepth 100000 in
theorem c_X2_copyFrom {l : Launch} (G : qn_G) (sz : Nat) (h_this h_cells h_o1 h_o1_cells : Nat) (a_cells : Nat → Int32) (a_o1_cells : Nat → Int32) {post : (Nat → Int32) → Prop} (hw : wp_X2_copyFrom post a_cells a_o1_cells) : Met l yX2_copyFrom wsX2_copyFrom rm_X2_copyFrom (qn_PC G [.ref h_this, .ref h_o1] sz (wd_X2_copyFrom G h_this h_cells h_o1 h_o1_cells a_cells a_o1_cells)) (qn_QV G (fun (u : (Nat → Int32)) => post u) (fun u : (Nat → Int32) => wd_X2_copyFrom G h_this h_cells h_o1 h_o1_cells u a_o1_cells) (va_A (wd_X2_copyFrom G h_this h_cells h_o1 h_o1_cells a_cells a_o1_cells) sz)) 0 0 (va_A (wd_X2_copyFrom G h_this h_cells h_o1 h_o1_cells a_cells a_o1_cells) sz) := by
  refine Met.ofW (cc := cX2_copyFrom) (maxL := 3) (ret := none) (by decide) rfl ?_
  intro p e s m args below meth c s₁ B hml hv
  obtain ⟨rfl, hsz, hP, hE, hD0⟩ := hv
  have C0 : qn_C p m c cX2_copyFrom 3 s _ wsX2_copyFrom RX2 meth none := qn_C0 B hml
  obtain ⟨hx, hb, -, hown, hts, hr, hlocks⟩ := id C0
  subst hsz
  have hD := hD0.self (sz := s.heap.size)
  generalize hAe : va_A (wd_X2_copyFrom G h_this h_cells h_o1 h_o1_cells a_cells a_o1_cells) s.heap.size = A at hD ⊢
  have hA : ∀ q : Nat, s.heap.size ≤ q → A q := fun q h => by rw [← hAe]; exact Or.inr h
  clear hAe
  have hS : va_S A s.heap s.heap [] := va_S.rf
  have hl := lv_entry ([.ref h_this, .ref h_o1]) (n := 3) (Nat.le_of_ble_eq_true rfl)
  rw [lg_entry_eq]
  generalize (lg_sl ([.ref h_this, .ref h_o1]) ++ List.replicate (3 - (lg_sl ([.ref h_this, .ref h_o1])).length) Slot.unset).toArray = ls at hl ⊢
  have hl : lv_has ls 3 [(0, .ref h_this), (1, .ref h_o1)] := hl
  have hP : va_P G.1 vwCl (wd_X2_copyFrom G h_this h_cells h_o1 h_o1_cells a_cells a_o1_cells) s.heap := hP
  refine lv_iconst (v := 0) hx hb dX2_copyFrom_0 (by decide) ?_
  refine lv_istore_n (lv' := [(2, .int 0), (0, .ref h_this), (1, .ref h_o1)]) hx hb dX2_copyFrom_1 rfl hl (by decide) rfl (fun ls hl => ?_)
  obtain ⟨fu_5, hw⟩ := hw
  refine l_X2_copyFrom_2 (post := post) C0 hE hA (fun a_cells_4 hw H locs ls hP hD hS hl => ?_) fu_5 0 a_cells hw _ _ _ hP hD hS (lv_sub hl [1, 2, 0] rfl)
  exact W.vret hx hb hr (fun t ht hW => ⟨⟨a_cells_4, rfl, hw, by rw [ht]; exact hP, hD⟩, hS.F ht⟩) hS.2.2 dX2_copyFrom_26
