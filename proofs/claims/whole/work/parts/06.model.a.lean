-- QuandleColoringsModel.in(III)Z
abbrev rm_X10_in : Room := { frames := 0, cells := 0, slots := 0, locals := 0 }
abbrev wd_X10_in (G : qn_G) : va_W := []
def wp_X10_in (post : Int32 → Prop) (x0 : Int32) (x1 : Int32) (x2 : Int32) : Prop := ((x0 < x1 → (post 0)) ∧ (¬ x0 < x1 → ((x2 < x0 → (post 0)) ∧ (¬ x2 < x0 → (post 1)))))
set_option maxHeartbeats 4000000 in
set_option maxRecDepth 100000 in
theorem c_X10_in {l : Launch} (G : qn_G) (sz : Nat) (x0 : Int32) (x1 : Int32) (x2 : Int32) {post : Int32 → Prop} (hw : wp_X10_in post x0 x1 x2) : Met l yX10_in wsX10_in rm_X10_in (qn_PC G [.int x0, .int x1, .int x2] sz (wd_X10_in G)) (qn_QI G (fun (r : Int32) (u : Unit) => post r) (fun u : Unit => wd_X10_in G) (va_A (wd_X10_in G) sz)) 0 0 (va_A (wd_X10_in G) sz) := by
  refine Met.ofW (cc := cX10_in) (maxL := 3) (ret := (some .boolean)) (by decide) rfl ?_
  intro p e s m args below meth c s₁ B hml hv
  obtain ⟨rfl, hsz, hP, hE, hD0⟩ := hv
  have C0 : qn_C p m c cX10_in 3 s _ wsX10_in RX10 meth (some .boolean) := qn_C0 B hml
  obtain ⟨hx, hb, -, hown, hts, hr, hlocks⟩ := id C0
  subst hsz
  have hD := hD0.self (sz := s.heap.size)
  generalize hAe : va_A (wd_X10_in G) s.heap.size = A at hD ⊢
  have hA : ∀ q : Nat, s.heap.size ≤ q → A q := fun q h => by rw [← hAe]; exact Or.inr h
  clear hAe
  have hS : va_S A s.heap s.heap [] := va_S.rf
  have hl := lv_entry ([.int x0, .int x1, .int x2]) (n := 3) (Nat.le_of_ble_eq_true rfl)
  rw [lg_entry_eq]
  generalize (lg_sl ([.int x0, .int x1, .int x2]) ++ List.replicate (3 - (lg_sl ([.int x0, .int x1, .int x2])).length) Slot.unset).toArray = ls at hl ⊢
  have hl : lv_has ls 3 [(0, .int x0), (1, .int x1), (2, .int x2)] := hl
  have hP : va_P G.1 vwCl (wd_X10_in G) s.heap := hP
  refine lv_iload_n hx hb dX10_in_0 rfl (lv_at hl 0 rfl) ?_
  refine lv_iload_n hx hb dX10_in_1 rfl (lv_at hl 1 rfl) ?_
  refine lv_icmp_lt (tgt := 14) hx hb dX10_in_2 (by decide) (fun c_1 => ?_) (fun c_1 => ?_)
  · have hw := hw.1 c_1
    refine lv_iconst (v := 0) hx hb dX10_in_14 (by decide) ?_
    exact W.zret (v := 0) hx hb hr (by decide) (fun t ht hW => ⟨⟨0, (), rfl, hw, by rw [ht]; exact hP, hD⟩, hS.F ht⟩) hS.2.2 dX10_in_15
  · have hw := hw.2 c_1
    refine lv_iload_n hx hb dX10_in_5 rfl (lv_at hl 0 rfl) ?_
    refine lv_iload_n hx hb dX10_in_6 rfl (lv_at hl 2 rfl) ?_
    refine lv_icmp_gt (tgt := 14) hx hb dX10_in_7 (by decide) (fun c_2 => ?_) (fun c_2 => ?_)
    · have hw := hw.1 c_2
      refine lv_iconst (v := 0) hx hb dX10_in_14 (by decide) ?_
      exact W.zret (v := 0) hx hb hr (by decide) (fun t ht hW => ⟨⟨0, (), rfl, hw, by rw [ht]; exact hP, hD⟩, hS.F ht⟩) hS.2.2 dX10_in_15
    · have hw := hw.2 c_2
      refine lv_iconst (v := 1) hx hb dX10_in_10 (by decide) ?_
      refine lv_goto (tgt := 15) hx hb dX10_in_11 (by decide) ?_
      exact W.zret (v := 1) hx hb hr (by decide) (fun t ht hW => ⟨⟨1, (), rfl, hw, by rw [ht]; exact hP, hD⟩, hS.F ht⟩) hS.2.2 dX10_in_15
-- QuandleColoringsModel.isElement(I)Z
abbrev rm_X10_isElement : Room := { frames := 1, cells := 0, slots := 0, locals := 22 }
abbrev wd_X10_isElement (G : qn_G) (h_this h_now h_history h_over h_order h_colors h_row h_three h_seen h_group : Nat) (f_edits : Int32) (f_total : Int32) (a_now : Nat → Int32) : va_W := [(h_this, .inr (10, [.ref h_now, .ref h_history, .int f_edits, .ref h_over, .ref h_order, .ref h_colors, .int f_total, .ref h_row, .ref h_three, .ref h_seen, .ref h_group])), (h_now, .inl (G.2.1, 88, .inl a_now))]
theorem in_X10_isElement_X10 : ∀ w ∈ u_ws RX10 TX10 11, w ∈ wsX10_isElement := by decide +kernel
theorem lk_X10_isElement_7 : Cond.fieldLink RX10 7 "QuandleColoringsModel" "now" "[I" ∈ wsX10_isElement := by decide +kernel
def wp_X10_isElement (post : Int32 → Prop) (a_now : Nat → Int32) (x1 : Int32) : Prop := (vp_in 84 88 ∧ (wp_X10_in (fun (r_1 : Int32) => ((r_1 = 0 ∨ r_1 = 1) ∧ post r_1)) x1 0 ((a_now (84 : Int32).toNatClampNeg) - 1)))
set_option maxHeartbeats 4000000 in
set_option maxRecDepth 100000 in
theorem c_X10_isElement {l : Launch} (G : qn_G) (sz : Nat) (h_this h_now h_history h_over h_order h_colors h_row h_three h_seen h_group : Nat) (f_edits : Int32) (f_total : Int32) (a_now : Nat → Int32) (x1 : Int32) {post : Int32 → Prop} (hw : wp_X10_isElement post a_now x1) : Met l yX10_isElement wsX10_isElement rm_X10_isElement (qn_PC G [.ref h_this, .int x1] sz (wd_X10_isElement G h_this h_now h_history h_over h_order h_colors h_row h_three h_seen h_group f_edits f_total a_now)) (qn_QI G (fun (r : Int32) (u : Unit) => post r) (fun u : Unit => wd_X10_isElement G h_this h_now h_history h_over h_order h_colors h_row h_three h_seen h_group f_edits f_total a_now) (va_A (wd_X10_isElement G h_this h_now h_history h_over h_order h_colors h_row h_three h_seen h_group f_edits f_total a_now) sz)) 0 0 (va_A (wd_X10_isElement G h_this h_now h_history h_over h_order h_colors h_row h_three h_seen h_group f_edits f_total a_now) sz) := by
  refine Met.ofW (cc := cX10_isElement) (maxL := 2) (ret := (some .boolean)) (by decide) rfl ?_
  intro p e s m args below meth c s₁ B hml hv
  obtain ⟨rfl, hsz, hP, hE, hD0⟩ := hv
  have C0 : qn_C p m c cX10_isElement 2 s _ wsX10_isElement RX10 meth (some .boolean) := qn_C0 B hml
  obtain ⟨hx, hb, -, hown, hts, hr, hlocks⟩ := id C0
  subst hsz
  have hD := hD0.self (sz := s.heap.size)
  generalize hAe : va_A (wd_X10_isElement G h_this h_now h_history h_over h_order h_colors h_row h_three h_seen h_group f_edits f_total a_now) s.heap.size = A at hD ⊢
  have hA : ∀ q : Nat, s.heap.size ≤ q → A q := fun q h => by rw [← hAe]; exact Or.inr h
  clear hAe
  have hS : va_S A s.heap s.heap [] := va_S.rf
  have hl := lv_entry ([.ref h_this, .int x1]) (n := 2) (Nat.le_of_ble_eq_true rfl)
  rw [lg_entry_eq]
  generalize (lg_sl ([.ref h_this, .int x1]) ++ List.replicate (2 - (lg_sl ([.ref h_this, .int x1])).length) Slot.unset).toArray = ls at hl ⊢
  have hl : lv_has ls 2 [(0, .ref h_this), (1, .int x1)] := hl
  have hP : va_P G.1 vwCl (wd_X10_isElement G h_this h_now h_history h_over h_order h_colors h_row h_three h_seen h_group f_edits f_total a_now) s.heap := hP
  refine lv_iload_n hx hb dX10_isElement_0 rfl (lv_at hl 1 rfl) ?_
  refine lv_iconst (v := 0) hx hb dX10_isElement_1 (by decide) ?_
  refine lv_aload_n hx hb dX10_isElement_2 rfl (lv_at hl 0 rfl) ?_
  refine va_get (D := G.1) (ci := 10) (v := .ref h_now) (C := RX10) (T := TX10) (N := 11) hx hb hts in_X10_isElement_X10 hown hE.1 hP 0 rfl rfl 0 (by decide) (hts (.fieldLink RX10 7 "QuandleColoringsModel" "now" "[I") lk_X10_isElement_7) (fun _ h9 => h9) rfl dX10_isElement_3 ?_
  refine lv_bipush (v := 84) hx hb dX10_isElement_6 (by decide) ?_
  have hin := hw.1
  have hw := hw.2
  refine va_iald hx hb hE.1 hP 1 0 rfl rfl hin dX10_isElement_8 ?_
  refine lv_iconst (v := 1) hx hb dX10_isElement_9 (by decide) ?_
  refine lv_isub hx hb dX10_isElement_10 ?_
  have hC9 : ([] : List Nat).map (fun i => (wd_X10_isElement G h_this h_now h_history h_over h_order h_colors h_row h_three h_seen h_group f_edits f_total a_now)[i]?) = (wd_X10_in G).map some := rfl
  refine qn_callI (wd := (fun u : Unit => wd_X10_isElement G h_this h_now h_history h_over h_order h_colors h_row h_three h_seen h_group f_edits f_total a_now)) [] (va_runS (As := [.int x1, .int 0, .int ((a_now (84 : Int32).toNatClampNeg) - 1)]) (rest := []) ⟨hx, hb, hml, hown, hts⟩ (c_X10_in G _ x1 0 ((a_now (84 : Int32).toNatClampNeg) - 1) hw) (va_cwS 3 hts gX10_isElement_X10_in rfl rfl rfl (by decide +kernel) ⟨Nat.le_of_ble_eq_true rfl, Nat.le_of_ble_eq_true rfl⟩) (qn_preS hE hP hD [] hC9 (by decide +kernel)) rfl rfl hl.1 rfl (lv_room (Nat.le_of_ble_eq_true rfl)) dX10_isElement_11 ⟨Nat.le_of_ble_eq_true rfl, Nat.le_of_ble_eq_true rfl⟩) hP hD hS hA hC9 [none, none] (M := 2) rfl (by decide +kernel) (fun _ => rfl) (fun _ => rfl) (fun r_1 _ H locs hw hP hD hS => ?_)
  try dsimp only at hw
  have hP : va_P G.1 vwCl (wd_X10_isElement G h_this h_now h_history h_over h_order h_colors h_row h_three h_seen h_group f_edits f_total a_now) H := hP
  have hD : va_D A (wd_X10_isElement G h_this h_now h_history h_over h_order h_colors h_row h_three h_seen h_group f_edits f_total a_now) := hD
  exact W.zret (v := r_1) hx hb hr (qn_nb hw.1) (fun t ht hW => ⟨⟨r_1, (), rfl, hw.2, by rw [ht]; exact hP, hD⟩, hS.F ht⟩) hS.2.2 dX10_isElement_14
-- QuandleColoringsModel.edit()V
abbrev rm_X10_edit : Room := { frames := 0, cells := 0, slots := 0, locals := 0 }
abbrev wd_X10_edit (G : qn_G) (h_this h_now h_history h_over h_order h_colors h_row h_three h_seen h_group : Nat) (f_edits : Int32) (f_total : Int32) (a_now : Nat → Int32) (a_history : Nat → Int32) : va_W := [(h_this, .inr (10, [.ref h_now, .ref h_history, .int f_edits, .ref h_over, .ref h_order, .ref h_colors, .int f_total, .ref h_row, .ref h_three, .ref h_seen, .ref h_group])), (h_now, .inl (G.2.1, 88, .inl a_now)), (h_history, .inl (G.2.1, 440, .inl a_history))]
theorem in_X10_edit_X10 : ∀ w ∈ u_ws RX10 TX10 11, w ∈ wsX10_edit := by decide +kernel
theorem lk_X10_edit_13 : Cond.fieldLink RX10 13 "QuandleColoringsModel" "history" "[I" ∈ wsX10_edit := by decide +kernel
theorem lk_X10_edit_41 : Cond.fieldLink RX10 41 "QuandleColoringsModel" "edits" "I" ∈ wsX10_edit := by decide +kernel
theorem lk_X10_edit_7 : Cond.fieldLink RX10 7 "QuandleColoringsModel" "now" "[I" ∈ wsX10_edit := by decide +kernel
def wp_X10_edit_L50 (KL50 : (Nat → Int32) → Prop) (f_edits : Int32) (a_now : Nat → Int32) : Nat → Int32 → (Nat → Int32) → Prop
  | 0 => fun _ _ => False
  | fu + 1 => fun x1 a_history => ((88 ≤ x1 → (KL50 a_history)) ∧ (¬ 88 ≤ x1 → (vp_in x1 88 ∧ (vp_in ((88 * f_edits) + x1) 440 ∧ (∀ a_history_3 : Nat → Int32, a_history_3 = upd a_history ((88 * f_edits) + x1).toNatClampNeg (a_now x1.toNatClampNeg) → (∀ x1_4 : Int32, x1_4 = x1 + 1 → ((wp_X10_edit_L50 KL50 f_edits a_now fu) x1_4 a_history_3)))))))
def wp_X10_edit_L10 (KL10 : (Nat → Int32) → Prop) : Nat → Int32 → (Nat → Int32) → Prop
  | 0 => fun _ _ => False
  | fu + 1 => fun x1 a_history => ((352 ≤ x1 → (KL10 a_history)) ∧ (¬ 352 ≤ x1 → (vp_in (x1 + 88) 440 ∧ (vp_in x1 440 ∧ (∀ a_history_9 : Nat → Int32, a_history_9 = upd a_history x1.toNatClampNeg (a_history (x1 + 88).toNatClampNeg) → (∀ x1_10 : Int32, x1_10 = x1 + 1 → ((wp_X10_edit_L10 KL10 fu) x1_10 a_history_9)))))))
def wp_X10_edit (post : Int32 → (Nat → Int32) → Prop) (f_edits : Int32) (a_now : Nat → Int32) (a_history : Nat → Int32) : Prop := ((¬ f_edits = 5 → (∃ fu_7 : Nat, wp_X10_edit_L50 (fun (a_history_5 : Nat → Int32) => (∀ f_edits_6 : Int32, f_edits_6 = f_edits + 1 → (post f_edits_6 a_history_5))) f_edits a_now fu_7 0 a_history)) ∧ (f_edits = 5 → (∃ fu_16 : Nat, wp_X10_edit_L10 (fun (a_history_11 : Nat → Int32) => (∀ f_edits_12 : Int32, f_edits_12 = f_edits - 1 → (∃ fu_15 : Nat, wp_X10_edit_L50 (fun (a_history_13 : Nat → Int32) => (∀ f_edits_14 : Int32, f_edits_14 = f_edits_12 + 1 → (post f_edits_14 a_history_13))) f_edits_12 a_now fu_15 0 a_history_11))) fu_16 0 a_history)))
set_option maxHeartbeats 4000000 in
set_option maxRecDepth 100000 in
theorem l_X10_edit_50 {p : Program} {l : Launch} {e : Env} {s : State} {m : MethodId} {args : Array Value} {below : List Frame} {meth : Method} {c : Code} {G : qn_G} {A : Nat → Prop} {h_this h_now h_history h_over h_order h_colors h_row h_three h_seen h_group : Nat} {f_edits : Int32} {f_total : Int32} {a_now : Nat → Int32} {post : Int32 → (Nat → Int32) → Prop} {KL50 : (Nat → Int32) → Prop} (C0 : qn_C p m c cX10_edit 2 s args wsX10_edit RX10 meth none) (hE : qn_EV G s) (hA : ∀ q, s.heap.size ≤ q → A q) (hKc : ∀ (a_history : Nat → Int32), KL50 a_history → ∀ (H : Heap) (locs : List Loc) (ls : Array Slot), va_P G.1 vwCl (wd_X10_edit G h_this h_now h_history h_over h_order h_colors h_row h_three h_seen h_group f_edits f_total a_now a_history) H → va_D A (wd_X10_edit G h_this h_now h_history h_over h_order h_colors h_row h_three h_seen h_group f_edits f_total a_now a_history) → va_S A s.heap H locs → lv_has ls 2 [(0, .ref h_this)] → W p l e (headSpec wsX10_edit rm_X10_edit).room s m args below meth c H locs 0 0 (MQ below (qn_QV G (fun (u : Int32 × (Nat → Int32)) => post u.1 u.2) (fun u : Int32 × (Nat → Int32) => wd_X10_edit G h_this h_now h_history h_over h_order h_colors h_row h_three h_seen h_group (u.1) f_total a_now (u.2)) A) args s 0 0 A) (F0 m 82 ls [])) :
    ∀ (fu : Nat) (x1 : Int32) (a_history : Nat → Int32), wp_X10_edit_L50 KL50 f_edits a_now fu x1 a_history → ∀ (H : Heap) (locs : List Loc) (ls : Array Slot), va_P G.1 vwCl (wd_X10_edit G h_this h_now h_history h_over h_order h_colors h_row h_three h_seen h_group f_edits f_total a_now a_history) H → va_D A (wd_X10_edit G h_this h_now h_history h_over h_order h_colors h_row h_three h_seen h_group f_edits f_total a_now a_history) → va_S A s.heap H locs → lv_has ls 2 [(0, .ref h_this), (1, .int x1)] → W p l e (headSpec wsX10_edit rm_X10_edit).room s m args below meth c H locs 0 0 (MQ below (qn_QV G (fun (u : Int32 × (Nat → Int32)) => post u.1 u.2) (fun u : Int32 × (Nat → Int32) => wd_X10_edit G h_this h_now h_history h_over h_order h_colors h_row h_three h_seen h_group (u.1) f_total a_now (u.2)) A) args s 0 0 A) (F0 m 50 ls []) := by
  obtain ⟨hx, hb, hml, hown, hts, hr, hlocks⟩ := id C0
  intro fu
  induction fu with
  | zero => intro x1 a_history hw; exact hw.elim
  | succ fu ih =>
    intro x1 a_history hw H locs ls hP hD hS hl
    refine lv_iload_n hx hb dX10_edit_50 rfl (lv_at hl 1 rfl) ?_
    refine lv_bipush (v := 88) hx hb dX10_edit_51 (by decide) ?_
    refine lv_icmp_ge (tgt := 82) hx hb dX10_edit_53 (by decide) (fun c_2 => ?_) (fun c_2 => ?_)
    · have hw := hw.1 c_2
      exact hKc a_history hw _ _ _ hP hD hS (lv_sub hl [0] rfl)
    · have hw := hw.2 c_2
      refine lv_aload_n hx hb dX10_edit_56 rfl (lv_at hl 0 rfl) ?_
      refine va_get (D := G.1) (ci := 10) (v := .ref h_history) (C := RX10) (T := TX10) (N := 11) hx hb hts in_X10_edit_X10 hown hE.1 hP 0 rfl rfl 1 (by decide) (hts (.fieldLink RX10 13 "QuandleColoringsModel" "history" "[I") lk_X10_edit_13) (fun _ h9 => h9) rfl dX10_edit_57 ?_
      refine lv_bipush (v := 88) hx hb dX10_edit_60 (by decide) ?_
      refine lv_aload_n hx hb dX10_edit_62 rfl (lv_at hl 0 rfl) ?_
      refine va_get (D := G.1) (ci := 10) (v := .int f_edits) (C := RX10) (T := TX10) (N := 11) hx hb hts in_X10_edit_X10 hown hE.1 hP 0 rfl rfl 2 (by decide) (hts (.fieldLink RX10 41 "QuandleColoringsModel" "edits" "I") lk_X10_edit_41) (fun _ h9 => h9) rfl dX10_edit_63 ?_
      refine lv_imul hx hb dX10_edit_66 ?_
      refine lv_iload_n hx hb dX10_edit_67 rfl (lv_at hl 1 rfl) ?_
      refine lv_iadd hx hb dX10_edit_68 ?_
      refine lv_aload_n hx hb dX10_edit_69 rfl (lv_at hl 0 rfl) ?_
      refine va_get (D := G.1) (ci := 10) (v := .ref h_now) (C := RX10) (T := TX10) (N := 11) hx hb hts in_X10_edit_X10 hown hE.1 hP 0 rfl rfl 0 (by decide) (hts (.fieldLink RX10 7 "QuandleColoringsModel" "now" "[I") lk_X10_edit_7) (fun _ h9 => h9) rfl dX10_edit_70 ?_
      refine lv_iload_n hx hb dX10_edit_73 rfl (lv_at hl 1 rfl) ?_
      have hin := hw.1
      have hw := hw.2
      refine va_iald hx hb hE.1 hP 1 0 rfl rfl hin dX10_edit_74 ?_
      have hin := hw.1
      have hw := hw.2
      obtain ⟨a_history_3, ea_history_3⟩ : ∃ y : Nat → Int32, y = upd a_history ((88 * f_edits) + x1).toNatClampNeg (a_now x1.toNatClampNeg) := ⟨_, rfl⟩
      have hw := hw a_history_3 ea_history_3
      refine va_iast hx hb hE.1 hP hD hS 2 0 rfl rfl hin dX10_edit_75 (fun H locs hP hD hS => ?_)
      rw [← ea_history_3] at hP hD
      have hP : va_P G.1 vwCl (wd_X10_edit G h_this h_now h_history h_over h_order h_colors h_row h_three h_seen h_group f_edits f_total a_now a_history_3) H := hP
      have hD : va_D A (wd_X10_edit G h_this h_now h_history h_over h_order h_colors h_row h_three h_seen h_group f_edits f_total a_now a_history_3) := hD
      obtain ⟨x1_4, ex1_4⟩ : ∃ y : Int32, y = x1 + 1 := ⟨_, rfl⟩
      have hw := hw x1_4 ex1_4
      refine lv_iinc (v := x1_4) (lv' := [(1, .int x1_4), (0, .ref h_this)]) hx hb dX10_edit_76 hl (k := 1) rfl (by rw [ex1_4]; rfl) (by decide) rfl (fun ls hl => ?_)
      refine lv_goto (tgt := 50) hx hb dX10_edit_79 (by decide) ?_
      exact ih x1_4 a_history_3 hw _ _ _ hP hD hS (lv_sub hl [1, 0] rfl)
set_option maxHeartbeats 4000000 in
set_option maxRecDepth 100000 in
theorem l_X10_edit_10 {p : Program} {l : Launch} {e : Env} {s : State} {m : MethodId} {args : Array Value} {below : List Frame} {meth : Method} {c : Code} {G : qn_G} {A : Nat → Prop} {h_this h_now h_history h_over h_order h_colors h_row h_three h_seen h_group : Nat} {f_edits : Int32} {f_total : Int32} {a_now : Nat → Int32} {post : Int32 → (Nat → Int32) → Prop} {KL10 : (Nat → Int32) → Prop} (C0 : qn_C p m c cX10_edit 2 s args wsX10_edit RX10 meth none) (hE : qn_EV G s) (hA : ∀ q, s.heap.size ≤ q → A q) (hKc : ∀ (a_history : Nat → Int32), KL10 a_history → ∀ (H : Heap) (locs : List Loc) (ls : Array Slot), va_P G.1 vwCl (wd_X10_edit G h_this h_now h_history h_over h_order h_colors h_row h_three h_seen h_group f_edits f_total a_now a_history) H → va_D A (wd_X10_edit G h_this h_now h_history h_over h_order h_colors h_row h_three h_seen h_group f_edits f_total a_now a_history) → va_S A s.heap H locs → lv_has ls 2 [(0, .ref h_this)] → W p l e (headSpec wsX10_edit rm_X10_edit).room s m args below meth c H locs 0 0 (MQ below (qn_QV G (fun (u : Int32 × (Nat → Int32)) => post u.1 u.2) (fun u : Int32 × (Nat → Int32) => wd_X10_edit G h_this h_now h_history h_over h_order h_colors h_row h_three h_seen h_group (u.1) f_total a_now (u.2)) A) args s 0 0 A) (F0 m 38 ls [])) :
    ∀ (fu : Nat) (x1 : Int32) (a_history : Nat → Int32), wp_X10_edit_L10 KL10 fu x1 a_history → ∀ (H : Heap) (locs : List Loc) (ls : Array Slot), va_P G.1 vwCl (wd_X10_edit G h_this h_now h_history h_over h_order h_colors h_row h_three h_seen h_group f_edits f_total a_now a_history) H → va_D A (wd_X10_edit G h_this h_now h_history h_over h_order h_colors h_row h_three h_seen h_group f_edits f_total a_now a_history) → va_S A s.heap H locs → lv_has ls 2 [(0, .ref h_this), (1, .int x1)] → W p l e (headSpec wsX10_edit rm_X10_edit).room s m args below meth c H locs 0 0 (MQ below (qn_QV G (fun (u : Int32 × (Nat → Int32)) => post u.1 u.2) (fun u : Int32 × (Nat → Int32) => wd_X10_edit G h_this h_now h_history h_over h_order h_colors h_row h_three h_seen h_group (u.1) f_total a_now (u.2)) A) args s 0 0 A) (F0 m 10 ls []) := by
  obtain ⟨hx, hb, hml, hown, hts, hr, hlocks⟩ := id C0
  intro fu
  induction fu with
  | zero => intro x1 a_history hw; exact hw.elim
  | succ fu ih =>
    intro x1 a_history hw H locs ls hP hD hS hl
    refine lv_iload_n hx hb dX10_edit_10 rfl (lv_at hl 1 rfl) ?_
    refine lv_sipush (v := 352) hx hb dX10_edit_11 (by decide) ?_
    refine lv_icmp_ge (tgt := 38) hx hb dX10_edit_14 (by decide) (fun c_8 => ?_) (fun c_8 => ?_)
    · have hw := hw.1 c_8
      exact hKc a_history hw _ _ _ hP hD hS (lv_sub hl [0] rfl)
    · have hw := hw.2 c_8
      refine lv_aload_n hx hb dX10_edit_17 rfl (lv_at hl 0 rfl) ?_
      refine va_get (D := G.1) (ci := 10) (v := .ref h_history) (C := RX10) (T := TX10) (N := 11) hx hb hts in_X10_edit_X10 hown hE.1 hP 0 rfl rfl 1 (by decide) (hts (.fieldLink RX10 13 "QuandleColoringsModel" "history" "[I") lk_X10_edit_13) (fun _ h9 => h9) rfl dX10_edit_18 ?_
      refine lv_iload_n hx hb dX10_edit_21 rfl (lv_at hl 1 rfl) ?_
      refine lv_aload_n hx hb dX10_edit_22 rfl (lv_at hl 0 rfl) ?_
      refine va_get (D := G.1) (ci := 10) (v := .ref h_history) (C := RX10) (T := TX10) (N := 11) hx hb hts in_X10_edit_X10 hown hE.1 hP 0 rfl rfl 1 (by decide) (hts (.fieldLink RX10 13 "QuandleColoringsModel" "history" "[I") lk_X10_edit_13) (fun _ h9 => h9) rfl dX10_edit_23 ?_
      refine lv_iload_n hx hb dX10_edit_26 rfl (lv_at hl 1 rfl) ?_
      refine lv_bipush (v := 88) hx hb dX10_edit_27 (by decide) ?_
      refine lv_iadd hx hb dX10_edit_29 ?_
      have hin := hw.1
      have hw := hw.2
      refine va_iald hx hb hE.1 hP 2 0 rfl rfl hin dX10_edit_30 ?_
      have hin := hw.1
      have hw := hw.2
      obtain ⟨a_history_9, ea_history_9⟩ : ∃ y : Nat → Int32, y = upd a_history x1.toNatClampNeg (a_history (x1 + 88).toNatClampNeg) := ⟨_, rfl⟩
      have hw := hw a_history_9 ea_history_9
      refine va_iast hx hb hE.1 hP hD hS 2 0 rfl rfl hin dX10_edit_31 (fun H locs hP hD hS => ?_)
      rw [← ea_history_9] at hP hD
      have hP : va_P G.1 vwCl (wd_X10_edit G h_this h_now h_history h_over h_order h_colors h_row h_three h_seen h_group f_edits f_total a_now a_history_9) H := hP
      have hD : va_D A (wd_X10_edit G h_this h_now h_history h_over h_order h_colors h_row h_three h_seen h_group f_edits f_total a_now a_history_9) := hD
      obtain ⟨x1_10, ex1_10⟩ : ∃ y : Int32, y = x1 + 1 := ⟨_, rfl⟩
      have hw := hw x1_10 ex1_10
      refine lv_iinc (v := x1_10) (lv' := [(1, .int x1_10), (0, .ref h_this)]) hx hb dX10_edit_32 hl (k := 1) rfl (by rw [ex1_10]; rfl) (by decide) rfl (fun ls hl => ?_)
      refine lv_goto (tgt := 10) hx hb dX10_edit_35 (by decide) ?_
      exact ih x1_10 a_history_9 hw _ _ _ hP hD hS (lv_sub hl [1, 0] rfl)
set_option maxHeartbeats 4000000 in
set_option maxRecDepth 100000 in
theorem c_X10_edit {l : Launch} (G : qn_G) (sz : Nat) (h_this h_now h_history h_over h_order h_colors h_row h_three h_seen h_group : Nat) (f_edits : Int32) (f_total : Int32) (a_now : Nat → Int32) (a_history : Nat → Int32) {post : Int32 → (Nat → Int32) → Prop} (hw : wp_X10_edit post f_edits a_now a_history) : Met l yX10_edit wsX10_edit rm_X10_edit (qn_PC G [.ref h_this] sz (wd_X10_edit G h_this h_now h_history h_over h_order h_colors h_row h_three h_seen h_group f_edits f_total a_now a_history)) (qn_QV G (fun (u : Int32 × (Nat → Int32)) => post u.1 u.2) (fun u : Int32 × (Nat → Int32) => wd_X10_edit G h_this h_now h_history h_over h_order h_colors h_row h_three h_seen h_group (u.1) f_total a_now (u.2)) (va_A (wd_X10_edit G h_this h_now h_history h_over h_order h_colors h_row h_three h_seen h_group f_edits f_total a_now a_history) sz)) 0 0 (va_A (wd_X10_edit G h_this h_now h_history h_over h_order h_colors h_row h_three h_seen h_group f_edits f_total a_now a_history) sz) := by
  refine Met.ofW (cc := cX10_edit) (maxL := 2) (ret := none) (by decide) rfl ?_
  intro p e s m args below meth c s₁ B hml hv
  obtain ⟨rfl, hsz, hP, hE, hD0⟩ := hv
  have C0 : qn_C p m c cX10_edit 2 s _ wsX10_edit RX10 meth none := qn_C0 B hml
  obtain ⟨hx, hb, -, hown, hts, hr, hlocks⟩ := id C0
  subst hsz
  have hD := hD0.self (sz := s.heap.size)
  generalize hAe : va_A (wd_X10_edit G h_this h_now h_history h_over h_order h_colors h_row h_three h_seen h_group f_edits f_total a_now a_history) s.heap.size = A at hD ⊢
  have hA : ∀ q : Nat, s.heap.size ≤ q → A q := fun q h => by rw [← hAe]; exact Or.inr h
  clear hAe
  have hS : va_S A s.heap s.heap [] := va_S.rf
  have hl := lv_entry ([.ref h_this]) (n := 2) (Nat.le_of_ble_eq_true rfl)
  rw [lg_entry_eq]
  generalize (lg_sl ([.ref h_this]) ++ List.replicate (2 - (lg_sl ([.ref h_this])).length) Slot.unset).toArray = ls at hl ⊢
  have hl : lv_has ls 2 [(0, .ref h_this)] := hl
  have hP : va_P G.1 vwCl (wd_X10_edit G h_this h_now h_history h_over h_order h_colors h_row h_three h_seen h_group f_edits f_total a_now a_history) s.heap := hP
  refine lv_aload_n hx hb dX10_edit_0 rfl (lv_at hl 0 rfl) ?_
  refine va_get (D := G.1) (ci := 10) (v := .int f_edits) (C := RX10) (T := TX10) (N := 11) hx hb hts in_X10_edit_X10 hown hE.1 hP 0 rfl rfl 2 (by decide) (hts (.fieldLink RX10 41 "QuandleColoringsModel" "edits" "I") lk_X10_edit_41) (fun _ h9 => h9) rfl dX10_edit_1 ?_
  refine lv_iconst (v := 5) hx hb dX10_edit_4 (by decide) ?_
  refine lv_icmp_ne (tgt := 48) hx hb dX10_edit_5 (by decide) (fun c_1 => ?_) (fun c_1 => ?_)
  · have hw := hw.1 c_1
    refine lv_iconst (v := 0) hx hb dX10_edit_48 (by decide) ?_
    refine lv_istore_n (lv' := [(1, .int 0), (0, .ref h_this)]) hx hb dX10_edit_49 rfl hl (by decide) rfl (fun ls hl => ?_)
    obtain ⟨fu_7, hw⟩ := hw
    refine l_X10_edit_50 (post := post) C0 hE hA (fun a_history_5 hw H locs ls hP hD hS hl => ?_) fu_7 0 a_history hw _ _ _ hP hD hS (lv_sub hl [1, 0] rfl)
    refine lv_aload_n hx hb dX10_edit_82 rfl (lv_at hl 0 rfl) ?_
    refine lv_dup hx hb dX10_edit_83 rfl ?_
    refine va_get (D := G.1) (ci := 10) (v := .int f_edits) (C := RX10) (T := TX10) (N := 11) hx hb hts in_X10_edit_X10 hown hE.1 hP 0 rfl rfl 2 (by decide) (hts (.fieldLink RX10 41 "QuandleColoringsModel" "edits" "I") lk_X10_edit_41) (fun _ h9 => h9) rfl dX10_edit_84 ?_
    refine lv_iconst (v := 1) hx hb dX10_edit_87 (by decide) ?_
    refine lv_iadd hx hb dX10_edit_88 ?_
    refine lv_topi (fun f_edits_6 ef_edits_6 => ?_)
    have hw := hw f_edits_6 ef_edits_6
    refine va_put (D := G.1) (ci := 10) (v := .int f_edits_6) (ty := .int) (C := RX10) (T := TX10) (N := 11) hx hb hts in_X10_edit_X10 tyX10 tyX10_ok nmX10 hown hE.1 hP hD hS 0 rfl rfl 2 (by decide) (hts (.fieldLink RX10 41 "QuandleColoringsModel" "edits" "I") lk_X10_edit_41) (fun _ h9 => h9) rfl (by decide +kernel) rfl rfl (Nat.le_of_ble_eq_true rfl) dX10_edit_89 (fun H locs hP hD hS => ?_)
    have hP : va_P G.1 vwCl (wd_X10_edit G h_this h_now h_history h_over h_order h_colors h_row h_three h_seen h_group f_edits_6 f_total a_now a_history_5) H := hP
    have hD : va_D A (wd_X10_edit G h_this h_now h_history h_over h_order h_colors h_row h_three h_seen h_group f_edits_6 f_total a_now a_history_5) := hD
    exact W.vret hx hb hr (fun t ht hW => ⟨⟨(f_edits_6, a_history_5), rfl, hw, by rw [ht]; exact hP, hD⟩, hS.F ht⟩) hS.2.2 dX10_edit_92
  · have hw := hw.2 c_1
    refine lv_iconst (v := 0) hx hb dX10_edit_8 (by decide) ?_
    refine lv_istore_n (lv' := [(1, .int 0), (0, .ref h_this)]) hx hb dX10_edit_9 rfl hl (by decide) rfl (fun ls hl => ?_)
    obtain ⟨fu_16, hw⟩ := hw
    refine l_X10_edit_10 (post := post) C0 hE hA (fun a_history_11 hw H locs ls hP hD hS hl => ?_) fu_16 0 a_history hw _ _ _ hP hD hS (lv_sub hl [1, 0] rfl)
    refine lv_aload_n hx hb dX10_edit_38 rfl (lv_at hl 0 rfl) ?_
    refine lv_dup hx hb dX10_edit_39 rfl ?_
    refine va_get (D := G.1) (ci := 10) (v := .int f_edits) (C := RX10) (T := TX10) (N := 11) hx hb hts in_X10_edit_X10 hown hE.1 hP 0 rfl rfl 2 (by decide) (hts (.fieldLink RX10 41 "QuandleColoringsModel" "edits" "I") lk_X10_edit_41) (fun _ h9 => h9) rfl dX10_edit_40 ?_
    refine lv_iconst (v := 1) hx hb dX10_edit_43 (by decide) ?_
    refine lv_isub hx hb dX10_edit_44 ?_
    refine lv_topi (fun f_edits_12 ef_edits_12 => ?_)
    have hw := hw f_edits_12 ef_edits_12
    refine va_put (D := G.1) (ci := 10) (v := .int f_edits_12) (ty := .int) (C := RX10) (T := TX10) (N := 11) hx hb hts in_X10_edit_X10 tyX10 tyX10_ok nmX10 hown hE.1 hP hD hS 0 rfl rfl 2 (by decide) (hts (.fieldLink RX10 41 "QuandleColoringsModel" "edits" "I") lk_X10_edit_41) (fun _ h9 => h9) rfl (by decide +kernel) rfl rfl (Nat.le_of_ble_eq_true rfl) dX10_edit_45 (fun H locs hP hD hS => ?_)
    have hP : va_P G.1 vwCl (wd_X10_edit G h_this h_now h_history h_over h_order h_colors h_row h_three h_seen h_group f_edits_12 f_total a_now a_history_11) H := hP
    have hD : va_D A (wd_X10_edit G h_this h_now h_history h_over h_order h_colors h_row h_three h_seen h_group f_edits_12 f_total a_now a_history_11) := hD
    refine lv_iconst (v := 0) hx hb dX10_edit_48 (by decide) ?_
    refine lv_istore_n (lv' := [(1, .int 0), (0, .ref h_this)]) hx hb dX10_edit_49 rfl hl (by decide) rfl (fun ls hl => ?_)
    obtain ⟨fu_15, hw⟩ := hw
    refine l_X10_edit_50 (post := post) C0 hE hA (fun a_history_13 hw H locs ls hP hD hS hl => ?_) fu_15 0 a_history_11 hw _ _ _ hP hD hS (lv_sub hl [1, 0] rfl)
    refine lv_aload_n hx hb dX10_edit_82 rfl (lv_at hl 0 rfl) ?_
    refine lv_dup hx hb dX10_edit_83 rfl ?_
    refine va_get (D := G.1) (ci := 10) (v := .int f_edits_12) (C := RX10) (T := TX10) (N := 11) hx hb hts in_X10_edit_X10 hown hE.1 hP 0 rfl rfl 2 (by decide) (hts (.fieldLink RX10 41 "QuandleColoringsModel" "edits" "I") lk_X10_edit_41) (fun _ h9 => h9) rfl dX10_edit_84 ?_
    refine lv_iconst (v := 1) hx hb dX10_edit_87 (by decide) ?_
    refine lv_iadd hx hb dX10_edit_88 ?_
    refine lv_topi (fun f_edits_14 ef_edits_14 => ?_)
    have hw := hw f_edits_14 ef_edits_14
    refine va_put (D := G.1) (ci := 10) (v := .int f_edits_14) (ty := .int) (C := RX10) (T := TX10) (N := 11) hx hb hts in_X10_edit_X10 tyX10 tyX10_ok nmX10 hown hE.1 hP hD hS 0 rfl rfl 2 (by decide) (hts (.fieldLink RX10 41 "QuandleColoringsModel" "edits" "I") lk_X10_edit_41) (fun _ h9 => h9) rfl (by decide +kernel) rfl rfl (Nat.le_of_ble_eq_true rfl) dX10_edit_89 (fun H locs hP hD hS => ?_)
    have hP : va_P G.1 vwCl (wd_X10_edit G h_this h_now h_history h_over h_order h_colors h_row h_three h_seen h_group f_edits_14 f_total a_now a_history_13) H := hP
    have hD : va_D A (wd_X10_edit G h_this h_now h_history h_over h_order h_colors h_row h_three h_seen h_group f_edits_14 f_total a_now a_history_13) := hD
    exact W.vret hx hb hr (fun t ht hW => ⟨⟨(f_edits_14, a_history_13), rfl, hw, by rw [ht]; exact hP, hD⟩, hS.F ht⟩) hS.2.2 dX10_edit_92
-- QuandleColoringsModel.undo()I
abbrev rm_X10_undo : Room := { frames := 0, cells := 0, slots := 0, locals := 0 }
abbrev wd_X10_undo (G : qn_G) (h_this h_now h_history h_over h_order h_colors h_row h_three h_seen h_group : Nat) (f_edits : Int32) (f_total : Int32) (a_now : Nat → Int32) (a_history : Nat → Int32) : va_W := [(h_this, .inr (10, [.ref h_now, .ref h_history, .int f_edits, .ref h_over, .ref h_order, .ref h_colors, .int f_total, .ref h_row, .ref h_three, .ref h_seen, .ref h_group])), (h_now, .inl (G.2.1, 88, .inl a_now)), (h_history, .inl (G.2.1, 440, .inl a_history))]
theorem in_X10_undo_X10 : ∀ w ∈ u_ws RX10 TX10 11, w ∈ wsX10_undo := by decide +kernel
theorem lk_X10_undo_13 : Cond.fieldLink RX10 13 "QuandleColoringsModel" "history" "[I" ∈ wsX10_undo := by decide +kernel
theorem lk_X10_undo_41 : Cond.fieldLink RX10 41 "QuandleColoringsModel" "edits" "I" ∈ wsX10_undo := by decide +kernel
theorem lk_X10_undo_7 : Cond.fieldLink RX10 7 "QuandleColoringsModel" "now" "[I" ∈ wsX10_undo := by decide +kernel
def wp_X10_undo_L22 (KL22 : (Nat → Int32) → Prop) (f_edits : Int32) (a_history : Nat → Int32) : Nat → Int32 → (Nat → Int32) → Prop
  | 0 => fun _ _ => False
  | fu + 1 => fun x1 a_now => ((88 ≤ x1 → (KL22 a_now)) ∧ (¬ 88 ≤ x1 → (vp_in ((88 * f_edits) + x1) 440 ∧ (vp_in x1 88 ∧ (∀ a_now_4 : Nat → Int32, a_now_4 = upd a_now x1.toNatClampNeg (a_history ((88 * f_edits) + x1).toNatClampNeg) → (∀ x1_5 : Int32, x1_5 = x1 + 1 → ((wp_X10_undo_L22 KL22 f_edits a_history fu) x1_5 a_now_4)))))))
def wp_X10_undo (post : Int32 → Int32 → (Nat → Int32) → Prop) (f_edits : Int32) (a_now : Nat → Int32) (a_history : Nat → Int32) : Prop := ((¬ f_edits = 0 → (∀ f_edits_2 : Int32, f_edits_2 = f_edits - 1 → (∃ fu_7 : Nat, wp_X10_undo_L22 (fun (a_now_6 : Nat → Int32) => (post f_edits_2 f_edits_2 a_now_6)) f_edits_2 a_history fu_7 0 a_now))) ∧ (f_edits = 0 → (post (-4) f_edits a_now)))
set_option maxHeartbeats 4000000 in
set_option maxRecDepth 100000 in
theorem l_X10_undo_22 {p : Program} {l : Launch} {e : Env} {s : State} {m : MethodId} {args : Array Value} {below : List Frame} {meth : Method} {c : Code} {G : qn_G} {A : Nat → Prop} {h_this h_now h_history h_over h_order h_colors h_row h_three h_seen h_group : Nat} {f_edits : Int32} {f_total : Int32} {a_history : Nat → Int32} {post : Int32 → Int32 → (Nat → Int32) → Prop} {KL22 : (Nat → Int32) → Prop} (C0 : qn_C p m c cX10_undo 2 s args wsX10_undo RX10 meth (some .int)) (hE : qn_EV G s) (hA : ∀ q, s.heap.size ≤ q → A q) (hKc : ∀ (a_now : Nat → Int32), KL22 a_now → ∀ (H : Heap) (locs : List Loc) (ls : Array Slot), va_P G.1 vwCl (wd_X10_undo G h_this h_now h_history h_over h_order h_colors h_row h_three h_seen h_group f_edits f_total a_now a_history) H → va_D A (wd_X10_undo G h_this h_now h_history h_over h_order h_colors h_row h_three h_seen h_group f_edits f_total a_now a_history) → va_S A s.heap H locs → lv_has ls 2 [(0, .ref h_this)] → W p l e (headSpec wsX10_undo rm_X10_undo).room s m args below meth c H locs 0 0 (MQ below (qn_QI G (fun (r : Int32) (u : Int32 × (Nat → Int32)) => post r u.1 u.2) (fun u : Int32 × (Nat → Int32) => wd_X10_undo G h_this h_now h_history h_over h_order h_colors h_row h_three h_seen h_group (u.1) f_total (u.2) a_history) A) args s 0 0 A) (F0 m 54 ls [])) :
    ∀ (fu : Nat) (x1 : Int32) (a_now : Nat → Int32), wp_X10_undo_L22 KL22 f_edits a_history fu x1 a_now → ∀ (H : Heap) (locs : List Loc) (ls : Array Slot), va_P G.1 vwCl (wd_X10_undo G h_this h_now h_history h_over h_order h_colors h_row h_three h_seen h_group f_edits f_total a_now a_history) H → va_D A (wd_X10_undo G h_this h_now h_history h_over h_order h_colors h_row h_three h_seen h_group f_edits f_total a_now a_history) → va_S A s.heap H locs → lv_has ls 2 [(0, .ref h_this), (1, .int x1)] → W p l e (headSpec wsX10_undo rm_X10_undo).room s m args below meth c H locs 0 0 (MQ below (qn_QI G (fun (r : Int32) (u : Int32 × (Nat → Int32)) => post r u.1 u.2) (fun u : Int32 × (Nat → Int32) => wd_X10_undo G h_this h_now h_history h_over h_order h_colors h_row h_three h_seen h_group (u.1) f_total (u.2) a_history) A) args s 0 0 A) (F0 m 22 ls []) := by
  obtain ⟨hx, hb, hml, hown, hts, hr, hlocks⟩ := id C0
  intro fu
  induction fu with
  | zero => intro x1 a_now hw; exact hw.elim
  | succ fu ih =>
    intro x1 a_now hw H locs ls hP hD hS hl
    refine lv_iload_n hx hb dX10_undo_22 rfl (lv_at hl 1 rfl) ?_
    refine lv_bipush (v := 88) hx hb dX10_undo_23 (by decide) ?_
    refine lv_icmp_ge (tgt := 54) hx hb dX10_undo_25 (by decide) (fun c_3 => ?_) (fun c_3 => ?_)
    · have hw := hw.1 c_3
      exact hKc a_now hw _ _ _ hP hD hS (lv_sub hl [0] rfl)
    · have hw := hw.2 c_3
      refine lv_aload_n hx hb dX10_undo_28 rfl (lv_at hl 0 rfl) ?_
      refine va_get (D := G.1) (ci := 10) (v := .ref h_now) (C := RX10) (T := TX10) (N := 11) hx hb hts in_X10_undo_X10 hown hE.1 hP 0 rfl rfl 0 (by decide) (hts (.fieldLink RX10 7 "QuandleColoringsModel" "now" "[I") lk_X10_undo_7) (fun _ h9 => h9) rfl dX10_undo_29 ?_
      refine lv_iload_n hx hb dX10_undo_32 rfl (lv_at hl 1 rfl) ?_
      refine lv_aload_n hx hb dX10_undo_33 rfl (lv_at hl 0 rfl) ?_
      refine va_get (D := G.1) (ci := 10) (v := .ref h_history) (C := RX10) (T := TX10) (N := 11) hx hb hts in_X10_undo_X10 hown hE.1 hP 0 rfl rfl 1 (by decide) (hts (.fieldLink RX10 13 "QuandleColoringsModel" "history" "[I") lk_X10_undo_13) (fun _ h9 => h9) rfl dX10_undo_34 ?_
      refine lv_bipush (v := 88) hx hb dX10_undo_37 (by decide) ?_
      refine lv_aload_n hx hb dX10_undo_39 rfl (lv_at hl 0 rfl) ?_
      refine va_get (D := G.1) (ci := 10) (v := .int f_edits) (C := RX10) (T := TX10) (N := 11) hx hb hts in_X10_undo_X10 hown hE.1 hP 0 rfl rfl 2 (by decide) (hts (.fieldLink RX10 41 "QuandleColoringsModel" "edits" "I") lk_X10_undo_41) (fun _ h9 => h9) rfl dX10_undo_40 ?_
      refine lv_imul hx hb dX10_undo_43 ?_
      refine lv_iload_n hx hb dX10_undo_44 rfl (lv_at hl 1 rfl) ?_
      refine lv_iadd hx hb dX10_undo_45 ?_
      have hin := hw.1
      have hw := hw.2
      refine va_iald hx hb hE.1 hP 2 0 rfl rfl hin dX10_undo_46 ?_
      have hin := hw.1
      have hw := hw.2
      obtain ⟨a_now_4, ea_now_4⟩ : ∃ y : Nat → Int32, y = upd a_now x1.toNatClampNeg (a_history ((88 * f_edits) + x1).toNatClampNeg) := ⟨_, rfl⟩
      have hw := hw a_now_4 ea_now_4
      refine va_iast hx hb hE.1 hP hD hS 1 0 rfl rfl hin dX10_undo_47 (fun H locs hP hD hS => ?_)
      rw [← ea_now_4] at hP hD
      have hP : va_P G.1 vwCl (wd_X10_undo G h_this h_now h_history h_over h_order h_colors h_row h_three h_seen h_group f_edits f_total a_now_4 a_history) H := hP
      have hD : va_D A (wd_X10_undo G h_this h_now h_history h_over h_order h_colors h_row h_three h_seen h_group f_edits f_total a_now_4 a_history) := hD
      obtain ⟨x1_5, ex1_5⟩ : ∃ y : Int32, y = x1 + 1 := ⟨_, rfl⟩
      have hw := hw x1_5 ex1_5
      refine lv_iinc (v := x1_5) (lv' := [(1, .int x1_5), (0, .ref h_this)]) hx hb dX10_undo_48 hl (k := 1) rfl (by rw [ex1_5]; rfl) (by decide) rfl (fun ls hl => ?_)
      refine lv_goto (tgt := 22) hx hb dX10_undo_51 (by decide) ?_
      exact ih x1_5 a_now_4 hw _ _ _ hP hD hS (lv_sub hl [1, 0] rfl)
set_option maxHeartbeats 4000000 in
set_option maxRecDepth 100000 in
theorem c_X10_undo {l : Launch} (G : qn_G) (sz : Nat) (h_this h_now h_history h_over h_order h_colors h_row h_three h_seen h_group : Nat) (f_edits : Int32) (f_total : Int32) (a_now : Nat → Int32) (a_history : Nat → Int32) {post : Int32 → Int32 → (Nat → Int32) → Prop} (hw : wp_X10_undo post f_edits a_now a_history) : Met l yX10_undo wsX10_undo rm_X10_undo (qn_PC G [.ref h_this] sz (wd_X10_undo G h_this h_now h_history h_over h_order h_colors h_row h_three h_seen h_group f_edits f_total a_now a_history)) (qn_QI G (fun (r : Int32) (u : Int32 × (Nat → Int32)) => post r u.1 u.2) (fun u : Int32 × (Nat → Int32) => wd_X10_undo G h_this h_now h_history h_over h_order h_colors h_row h_three h_seen h_group (u.1) f_total (u.2) a_history) (va_A (wd_X10_undo G h_this h_now h_history h_over h_order h_colors h_row h_three h_seen h_group f_edits f_total a_now a_history) sz)) 0 0 (va_A (wd_X10_undo G h_this h_now h_history h_over h_order h_colors h_row h_three h_seen h_group f_edits f_total a_now a_history) sz) := by
  refine Met.ofW (cc := cX10_undo) (maxL := 2) (ret := (some .int)) (by decide) rfl ?_
  intro p e s m args below meth c s₁ B hml hv
  obtain ⟨rfl, hsz, hP, hE, hD0⟩ := hv
  have C0 : qn_C p m c cX10_undo 2 s _ wsX10_undo RX10 meth (some .int) := qn_C0 B hml
  obtain ⟨hx, hb, -, hown, hts, hr, hlocks⟩ := id C0
  subst hsz
  have hD := hD0.self (sz := s.heap.size)
  generalize hAe : va_A (wd_X10_undo G h_this h_now h_history h_over h_order h_colors h_row h_three h_seen h_group f_edits f_total a_now a_history) s.heap.size = A at hD ⊢
  have hA : ∀ q : Nat, s.heap.size ≤ q → A q := fun q h => by rw [← hAe]; exact Or.inr h
  clear hAe
  have hS : va_S A s.heap s.heap [] := va_S.rf
  have hl := lv_entry ([.ref h_this]) (n := 2) (Nat.le_of_ble_eq_true rfl)
  rw [lg_entry_eq]
  generalize (lg_sl ([.ref h_this]) ++ List.replicate (2 - (lg_sl ([.ref h_this])).length) Slot.unset).toArray = ls at hl ⊢
  have hl : lv_has ls 2 [(0, .ref h_this)] := hl
  have hP : va_P G.1 vwCl (wd_X10_undo G h_this h_now h_history h_over h_order h_colors h_row h_three h_seen h_group f_edits f_total a_now a_history) s.heap := hP
  refine lv_aload_n hx hb dX10_undo_0 rfl (lv_at hl 0 rfl) ?_
  refine va_get (D := G.1) (ci := 10) (v := .int f_edits) (C := RX10) (T := TX10) (N := 11) hx hb hts in_X10_undo_X10 hown hE.1 hP 0 rfl rfl 2 (by decide) (hts (.fieldLink RX10 41 "QuandleColoringsModel" "edits" "I") lk_X10_undo_41) (fun _ h9 => h9) rfl dX10_undo_1 ?_
  refine lv_if_ne (tgt := 10) hx hb dX10_undo_4 (by decide) (fun c_1 => ?_) (fun c_1 => ?_)
  · have hw := hw.1 c_1
    refine lv_aload_n hx hb dX10_undo_10 rfl (lv_at hl 0 rfl) ?_
    refine lv_dup hx hb dX10_undo_11 rfl ?_
    refine va_get (D := G.1) (ci := 10) (v := .int f_edits) (C := RX10) (T := TX10) (N := 11) hx hb hts in_X10_undo_X10 hown hE.1 hP 0 rfl rfl 2 (by decide) (hts (.fieldLink RX10 41 "QuandleColoringsModel" "edits" "I") lk_X10_undo_41) (fun _ h9 => h9) rfl dX10_undo_12 ?_
    refine lv_iconst (v := 1) hx hb dX10_undo_15 (by decide) ?_
    refine lv_isub hx hb dX10_undo_16 ?_
    refine lv_topi (fun f_edits_2 ef_edits_2 => ?_)
    have hw := hw f_edits_2 ef_edits_2
    refine va_put (D := G.1) (ci := 10) (v := .int f_edits_2) (ty := .int) (C := RX10) (T := TX10) (N := 11) hx hb hts in_X10_undo_X10 tyX10 tyX10_ok nmX10 hown hE.1 hP hD hS 0 rfl rfl 2 (by decide) (hts (.fieldLink RX10 41 "QuandleColoringsModel" "edits" "I") lk_X10_undo_41) (fun _ h9 => h9) rfl (by decide +kernel) rfl rfl (Nat.le_of_ble_eq_true rfl) dX10_undo_17 (fun H locs hP hD hS => ?_)
    have hP : va_P G.1 vwCl (wd_X10_undo G h_this h_now h_history h_over h_order h_colors h_row h_three h_seen h_group f_edits_2 f_total a_now a_history) H := hP
    have hD : va_D A (wd_X10_undo G h_this h_now h_history h_over h_order h_colors h_row h_three h_seen h_group f_edits_2 f_total a_now a_history) := hD
    refine lv_iconst (v := 0) hx hb dX10_undo_20 (by decide) ?_
    refine lv_istore_n (lv' := [(1, .int 0), (0, .ref h_this)]) hx hb dX10_undo_21 rfl hl (by decide) rfl (fun ls hl => ?_)
    obtain ⟨fu_7, hw⟩ := hw
    refine l_X10_undo_22 (post := post) C0 hE hA (fun a_now_6 hw H locs ls hP hD hS hl => ?_) fu_7 0 a_now hw _ _ _ hP hD hS (lv_sub hl [1, 0] rfl)
    refine lv_aload_n hx hb dX10_undo_54 rfl (lv_at hl 0 rfl) ?_
    refine va_get (D := G.1) (ci := 10) (v := .int f_edits_2) (C := RX10) (T := TX10) (N := 11) hx hb hts in_X10_undo_X10 hown hE.1 hP 0 rfl rfl 2 (by decide) (hts (.fieldLink RX10 41 "QuandleColoringsModel" "edits" "I") lk_X10_undo_41) (fun _ h9 => h9) rfl dX10_undo_55 ?_
    exact W.iret (v := f_edits_2) hx hb hr (fun t ht hW => ⟨⟨f_edits_2, (f_edits_2, a_now_6), rfl, hw, by rw [ht]; exact hP, hD⟩, hS.F ht⟩) hS.2.2 dX10_undo_58
  · have hw := hw.2 c_1
    refine lv_bipush (v := (-4)) hx hb dX10_undo_7 (by decide) ?_
    exact W.iret (v := (-4)) hx hb hr (fun t ht hW => ⟨⟨(-4), (f_edits, a_now), rfl, hw, by rw [ht]; exact hP, hD⟩, hS.F ht⟩) hS.2.2 dX10_undo_9
-- QuandleColoringsModel.loads(I)V
abbrev rm_X10_loads : Room := { frames := 1, cells := 0, slots := 0, locals := 21 }
abbrev wd_X10_loads (G : qn_G) (h_this h_now h_history h_over h_order h_colors h_row h_three h_seen h_group : Nat) (f_edits : Int32) (f_total : Int32) (a_now : Nat → Int32) (a_history : Nat → Int32) : va_W := [(h_this, .inr (10, [.ref h_now, .ref h_history, .int f_edits, .ref h_over, .ref h_order, .ref h_colors, .int f_total, .ref h_row, .ref h_three, .ref h_seen, .ref h_group])), (h_now, .inl (G.2.1, 88, .inl a_now)), (h_history, .inl (G.2.1, 440, .inl a_history))]
theorem in_X10_loads_X10 : ∀ w ∈ u_ws RX10 TX10 11, w ∈ wsX10_loads := by decide +kernel
theorem lk_X10_loads_7 : Cond.fieldLink RX10 7 "QuandleColoringsModel" "now" "[I" ∈ wsX10_loads := by decide +kernel
def wp_X10_loads_L14 (KL14 : (Nat → Int32) → Prop) : Nat → Int32 → (Nat → Int32) → Prop
  | 0 => fun _ _ => False
  | fu + 1 => fun x2 a_now => ((36 ≤ x2 → (KL14 a_now)) ∧ (¬ 36 ≤ x2 → (vp_in x2 88 ∧ (∀ a_now_6 : Nat → Int32, a_now_6 = upd a_now x2.toNatClampNeg 0 → (vp_in (36 + x2) 88 ∧ (∀ a_now_7 : Nat → Int32, a_now_7 = upd a_now_6 (36 + x2).toNatClampNeg 0 → (∀ x2_8 : Int32, x2_8 = x2 + 1 → ((wp_X10_loads_L14 KL14 fu) x2_8 a_now_7))))))))
def wp_X10_loads (post : Int32 → (Nat → Int32) → (Nat → Int32) → Prop) (f_edits : Int32) (a_now : Nat → Int32) (a_history : Nat → Int32) (x1 : Int32) : Prop := (wp_X10_edit (fun (f_edits_1 : Int32) (a_history_2 : Nat → Int32) => (vp_in 84 88 ∧ (∀ a_now_4 : Nat → Int32, a_now_4 = upd a_now (84 : Int32).toNatClampNeg x1 → (∃ fu_10 : Nat, wp_X10_loads_L14 (fun (a_now_9 : Nat → Int32) => (post f_edits_1 a_now_9 a_history_2)) fu_10 0 a_now_4)))) f_edits a_now a_history)
set_option maxHeartbeats 4000000 in
set_option maxRecDepth 100000 in
theorem l_X10_loads_14 {p : Program} {l : Launch} {e : Env} {s : State} {m : MethodId} {args : Array Value} {below : List Frame} {meth : Method} {c : Code} {G : qn_G} {A : Nat → Prop} {h_this h_now h_history h_over h_order h_colors h_row h_three h_seen h_group : Nat} {f_edits : Int32} {f_total : Int32} {a_history : Nat → Int32} {post : Int32 → (Nat → Int32) → (Nat → Int32) → Prop} {KL14 : (Nat → Int32) → Prop} (C0 : qn_C p m c cX10_loads 3 s args wsX10_loads RX10 meth none) (hE : qn_EV G s) (hA : ∀ q, s.heap.size ≤ q → A q) (hKc : ∀ (a_now : Nat → Int32), KL14 a_now → ∀ (H : Heap) (locs : List Loc) (ls : Array Slot), va_P G.1 vwCl (wd_X10_loads G h_this h_now h_history h_over h_order h_colors h_row h_three h_seen h_group f_edits f_total a_now a_history) H → va_D A (wd_X10_loads G h_this h_now h_history h_over h_order h_colors h_row h_three h_seen h_group f_edits f_total a_now a_history) → va_S A s.heap H locs → lv_has ls 3 [] → W p l e (headSpec wsX10_loads rm_X10_loads).room s m args below meth c H locs 0 0 (MQ below (qn_QV G (fun (u : Int32 × (Nat → Int32) × (Nat → Int32)) => post u.1 u.2.1 u.2.2) (fun u : Int32 × (Nat → Int32) × (Nat → Int32) => wd_X10_loads G h_this h_now h_history h_over h_order h_colors h_row h_three h_seen h_group (u.1) f_total (u.2.1) (u.2.2)) A) args s 0 0 A) (F0 m 43 ls [])) :
    ∀ (fu : Nat) (x2 : Int32) (a_now : Nat → Int32), wp_X10_loads_L14 KL14 fu x2 a_now → ∀ (H : Heap) (locs : List Loc) (ls : Array Slot), va_P G.1 vwCl (wd_X10_loads G h_this h_now h_history h_over h_order h_colors h_row h_three h_seen h_group f_edits f_total a_now a_history) H → va_D A (wd_X10_loads G h_this h_now h_history h_over h_order h_colors h_row h_three h_seen h_group f_edits f_total a_now a_history) → va_S A s.heap H locs → lv_has ls 3 [(0, .ref h_this), (2, .int x2)] → W p l e (headSpec wsX10_loads rm_X10_loads).room s m args below meth c H locs 0 0 (MQ below (qn_QV G (fun (u : Int32 × (Nat → Int32) × (Nat → Int32)) => post u.1 u.2.1 u.2.2) (fun u : Int32 × (Nat → Int32) × (Nat → Int32) => wd_X10_loads G h_this h_now h_history h_over h_order h_colors h_row h_three h_seen h_group (u.1) f_total (u.2.1) (u.2.2)) A) args s 0 0 A) (F0 m 14 ls []) := by
  obtain ⟨hx, hb, hml, hown, hts, hr, hlocks⟩ := id C0
  intro fu
  induction fu with
  | zero => intro x2 a_now hw; exact hw.elim
  | succ fu ih =>
    intro x2 a_now hw H locs ls hP hD hS hl
    refine lv_iload_n hx hb dX10_loads_14 rfl (lv_at hl 1 rfl) ?_
    refine lv_bipush (v := 36) hx hb dX10_loads_15 (by decide) ?_
    refine lv_icmp_ge (tgt := 43) hx hb dX10_loads_17 (by decide) (fun c_5 => ?_) (fun c_5 => ?_)
    · have hw := hw.1 c_5
      exact hKc a_now hw _ _ _ hP hD hS (lv_sub hl [] rfl)
    · have hw := hw.2 c_5
      refine lv_aload_n hx hb dX10_loads_20 rfl (lv_at hl 0 rfl) ?_
      refine va_get (D := G.1) (ci := 10) (v := .ref h_now) (C := RX10) (T := TX10) (N := 11) hx hb hts in_X10_loads_X10 hown hE.1 hP 0 rfl rfl 0 (by decide) (hts (.fieldLink RX10 7 "QuandleColoringsModel" "now" "[I") lk_X10_loads_7) (fun _ h9 => h9) rfl dX10_loads_21 ?_
      refine lv_iload_n hx hb dX10_loads_24 rfl (lv_at hl 1 rfl) ?_
      refine lv_iconst (v := 0) hx hb dX10_loads_25 (by decide) ?_
      have hin := hw.1
      have hw := hw.2
      obtain ⟨a_now_6, ea_now_6⟩ : ∃ y : Nat → Int32, y = upd a_now x2.toNatClampNeg 0 := ⟨_, rfl⟩
      have hw := hw a_now_6 ea_now_6
      refine va_iast hx hb hE.1 hP hD hS 1 0 rfl rfl hin dX10_loads_26 (fun H locs hP hD hS => ?_)
      rw [← ea_now_6] at hP hD
      have hP : va_P G.1 vwCl (wd_X10_loads G h_this h_now h_history h_over h_order h_colors h_row h_three h_seen h_group f_edits f_total a_now_6 a_history) H := hP
      have hD : va_D A (wd_X10_loads G h_this h_now h_history h_over h_order h_colors h_row h_three h_seen h_group f_edits f_total a_now_6 a_history) := hD
      refine lv_aload_n hx hb dX10_loads_27 rfl (lv_at hl 0 rfl) ?_
      refine va_get (D := G.1) (ci := 10) (v := .ref h_now) (C := RX10) (T := TX10) (N := 11) hx hb hts in_X10_loads_X10 hown hE.1 hP 0 rfl rfl 0 (by decide) (hts (.fieldLink RX10 7 "QuandleColoringsModel" "now" "[I") lk_X10_loads_7) (fun _ h9 => h9) rfl dX10_loads_28 ?_
      refine lv_bipush (v := 36) hx hb dX10_loads_31 (by decide) ?_
      refine lv_iload_n hx hb dX10_loads_33 rfl (lv_at hl 1 rfl) ?_
      refine lv_iadd hx hb dX10_loads_34 ?_
      refine lv_iconst (v := 0) hx hb dX10_loads_35 (by decide) ?_
      have hin := hw.1
      have hw := hw.2
      obtain ⟨a_now_7, ea_now_7⟩ : ∃ y : Nat → Int32, y = upd a_now_6 (36 + x2).toNatClampNeg 0 := ⟨_, rfl⟩
      have hw := hw a_now_7 ea_now_7
      refine va_iast hx hb hE.1 hP hD hS 1 0 rfl rfl hin dX10_loads_36 (fun H locs hP hD hS => ?_)
      rw [← ea_now_7] at hP hD
      have hP : va_P G.1 vwCl (wd_X10_loads G h_this h_now h_history h_over h_order h_colors h_row h_three h_seen h_group f_edits f_total a_now_7 a_history) H := hP
      have hD : va_D A (wd_X10_loads G h_this h_now h_history h_over h_order h_colors h_row h_three h_seen h_group f_edits f_total a_now_7 a_history) := hD
      obtain ⟨x2_8, ex2_8⟩ : ∃ y : Int32, y = x2 + 1 := ⟨_, rfl⟩
      have hw := hw x2_8 ex2_8
      refine lv_iinc (v := x2_8) (lv' := [(2, .int x2_8), (0, .ref h_this)]) hx hb dX10_loads_37 hl (k := 1) rfl (by rw [ex2_8]; rfl) (by decide) rfl (fun ls hl => ?_)
      refine lv_goto (tgt := 14) hx hb dX10_loads_40 (by decide) ?_
      exact ih x2_8 a_now_7 hw _ _ _ hP hD hS (lv_sub hl [1, 0] rfl)
set_option maxHeartbeats 4000000 in
set_option maxRecDepth 100000 in
theorem c_X10_loads {l : Launch} (G : qn_G) (sz : Nat) (h_this h_now h_history h_over h_order h_colors h_row h_three h_seen h_group : Nat) (f_edits : Int32) (f_total : Int32) (a_now : Nat → Int32) (a_history : Nat → Int32) (x1 : Int32) {post : Int32 → (Nat → Int32) → (Nat → Int32) → Prop} (hw : wp_X10_loads post f_edits a_now a_history x1) : Met l yX10_loads wsX10_loads rm_X10_loads (qn_PC G [.ref h_this, .int x1] sz (wd_X10_loads G h_this h_now h_history h_over h_order h_colors h_row h_three h_seen h_group f_edits f_total a_now a_history)) (qn_QV G (fun (u : Int32 × (Nat → Int32) × (Nat → Int32)) => post u.1 u.2.1 u.2.2) (fun u : Int32 × (Nat → Int32) × (Nat → Int32) => wd_X10_loads G h_this h_now h_history h_over h_order h_colors h_row h_three h_seen h_group (u.1) f_total (u.2.1) (u.2.2)) (va_A (wd_X10_loads G h_this h_now h_history h_over h_order h_colors h_row h_three h_seen h_group f_edits f_total a_now a_history) sz)) 0 0 (va_A (wd_X10_loads G h_this h_now h_history h_over h_order h_colors h_row h_three h_seen h_group f_edits f_total a_now a_history) sz) := by
  refine Met.ofW (cc := cX10_loads) (maxL := 3) (ret := none) (by decide) rfl ?_
  intro p e s m args below meth c s₁ B hml hv
  obtain ⟨rfl, hsz, hP, hE, hD0⟩ := hv
  have C0 : qn_C p m c cX10_loads 3 s _ wsX10_loads RX10 meth none := qn_C0 B hml
  obtain ⟨hx, hb, -, hown, hts, hr, hlocks⟩ := id C0
  subst hsz
  have hD := hD0.self (sz := s.heap.size)
  generalize hAe : va_A (wd_X10_loads G h_this h_now h_history h_over h_order h_colors h_row h_three h_seen h_group f_edits f_total a_now a_history) s.heap.size = A at hD ⊢
  have hA : ∀ q : Nat, s.heap.size ≤ q → A q := fun q h => by rw [← hAe]; exact Or.inr h
  clear hAe
  have hS : va_S A s.heap s.heap [] := va_S.rf
  have hl := lv_entry ([.ref h_this, .int x1]) (n := 3) (Nat.le_of_ble_eq_true rfl)
  rw [lg_entry_eq]
  generalize (lg_sl ([.ref h_this, .int x1]) ++ List.replicate (3 - (lg_sl ([.ref h_this, .int x1])).length) Slot.unset).toArray = ls at hl ⊢
  have hl : lv_has ls 3 [(0, .ref h_this), (1, .int x1)] := hl
  have hP : va_P G.1 vwCl (wd_X10_loads G h_this h_now h_history h_over h_order h_colors h_row h_three h_seen h_group f_edits f_total a_now a_history) s.heap := hP
  refine lv_aload_n hx hb dX10_loads_0 rfl (lv_at hl 0 rfl) ?_
  have hC9 : ([0, 1, 2]).map (fun i => (wd_X10_loads G h_this h_now h_history h_over h_order h_colors h_row h_three h_seen h_group f_edits f_total a_now a_history)[i]?) = (wd_X10_edit G h_this h_now h_history h_over h_order h_colors h_row h_three h_seen h_group f_edits f_total a_now a_history).map some := rfl
  refine qn_callV (wd := (fun u : Int32 × (Nat → Int32) => wd_X10_loads G h_this h_now h_history h_over h_order h_colors h_row h_three h_seen h_group (u.1) f_total a_now (u.2))) [0, 1, 2] (va_runV (As := []) (rest := []) ⟨hx, hb, hml, hown, hts⟩ (c_X10_edit G _ h_this h_now h_history h_over h_order h_colors h_row h_three h_seen h_group f_edits f_total a_now a_history hw) (cwV 0 hts gX10_loads_X10_edit rfl rfl rfl (by decide +kernel) ⟨Nat.le_of_ble_eq_true rfl, Nat.le_of_ble_eq_true rfl⟩) (qn_preV hE hP hD [0, 1, 2] hC9 (by decide +kernel) (ci := 10) rfl rfl) rfl rfl hl.1 rfl (lv_room (Nat.le_of_ble_eq_true rfl)) dX10_loads_1 ⟨Nat.le_of_ble_eq_true rfl, Nat.le_of_ble_eq_true rfl⟩) hP hD hS hA hC9 [some 0, some 1, some 2] (M := 3) rfl (by decide +kernel) (fun _ => rfl) (fun _ => rfl) (fun u_3 H locs hw hP hD hS => ?_)
  obtain ⟨f_edits_1, a_history_2⟩ := u_3
  try dsimp only at hw
  have hP : va_P G.1 vwCl (wd_X10_loads G h_this h_now h_history h_over h_order h_colors h_row h_three h_seen h_group f_edits_1 f_total a_now a_history_2) H := hP
  have hD : va_D A (wd_X10_loads G h_this h_now h_history h_over h_order h_colors h_row h_three h_seen h_group f_edits_1 f_total a_now a_history_2) := hD
  refine lv_aload_n hx hb dX10_loads_4 rfl (lv_at hl 0 rfl) ?_
  refine va_get (D := G.1) (ci := 10) (v := .ref h_now) (C := RX10) (T := TX10) (N := 11) hx hb hts in_X10_loads_X10 hown hE.1 hP 0 rfl rfl 0 (by decide) (hts (.fieldLink RX10 7 "QuandleColoringsModel" "now" "[I") lk_X10_loads_7) (fun _ h9 => h9) rfl dX10_loads_5 ?_
  refine lv_bipush (v := 84) hx hb dX10_loads_8 (by decide) ?_
  refine lv_iload_n hx hb dX10_loads_10 rfl (lv_at hl 1 rfl) ?_
  have hin := hw.1
  have hw := hw.2
  obtain ⟨a_now_4, ea_now_4⟩ : ∃ y : Nat → Int32, y = upd a_now (84 : Int32).toNatClampNeg x1 := ⟨_, rfl⟩
  have hw := hw a_now_4 ea_now_4
  refine va_iast hx hb hE.1 hP hD hS 1 0 rfl rfl hin dX10_loads_11 (fun H locs hP hD hS => ?_)
  rw [← ea_now_4] at hP hD
  have hP : va_P G.1 vwCl (wd_X10_loads G h_this h_now h_history h_over h_order h_colors h_row h_three h_seen h_group f_edits_1 f_total a_now_4 a_history_2) H := hP
  have hD : va_D A (wd_X10_loads G h_this h_now h_history h_over h_order h_colors h_row h_three h_seen h_group f_edits_1 f_total a_now_4 a_history_2) := hD
  refine lv_iconst (v := 0) hx hb dX10_loads_12 (by decide) ?_
  refine lv_istore_n (lv' := [(2, .int 0), (0, .ref h_this), (1, .int x1)]) hx hb dX10_loads_13 rfl hl (by decide) rfl (fun ls hl => ?_)
  obtain ⟨fu_10, hw⟩ := hw
  refine l_X10_loads_14 (post := post) C0 hE hA (fun a_now_9 hw H locs ls hP hD hS hl => ?_) fu_10 0 a_now_4 hw _ _ _ hP hD hS (lv_sub hl [1, 0] rfl)
  exact W.vret hx hb hr (fun t ht hW => ⟨⟨(f_edits_1, a_now_9, a_history_2), rfl, hw, by rw [ht]; exact hP, hD⟩, hS.F ht⟩) hS.2.2 dX10_loads_43
-- QuandleColoringsModel.loadTrivial(I)I
abbrev rm_X10_loadTrivial : Room := { frames := 2, cells := 0, slots := 0, locals := 43 }
abbrev wd_X10_loadTrivial (G : qn_G) (h_this h_now h_history h_over h_order h_colors h_row h_three h_seen h_group : Nat) (f_edits : Int32) (f_total : Int32) (a_now : Nat → Int32) (a_history : Nat → Int32) : va_W := [(h_this, .inr (10, [.ref h_now, .ref h_history, .int f_edits, .ref h_over, .ref h_order, .ref h_colors, .int f_total, .ref h_row, .ref h_three, .ref h_seen, .ref h_group])), (h_now, .inl (G.2.1, 88, .inl a_now)), (h_history, .inl (G.2.1, 440, .inl a_history))]
theorem in_X10_loadTrivial_X10 : ∀ w ∈ u_ws RX10 TX10 11, w ∈ wsX10_loadTrivial := by decide +kernel
theorem lk_X10_loadTrivial_7 : Cond.fieldLink RX10 7 "QuandleColoringsModel" "now" "[I" ∈ wsX10_loadTrivial := by decide +kernel
def wp_X10_loadTrivial_L19 (KL19 : (Nat → Int32) → Prop) (x1 : Int32) : Nat → Int32 → (Nat → Int32) → Prop
  | 0 => fun _ _ => False
  | fu + 1 => fun x2 a_now => ((36 ≤ x2 → (KL19 a_now)) ∧ (¬ 36 ≤ x2 → (∀ z_8 : Int32, z_8 = x2 / 6 → ((x1 ≤ z_8 → (vp_in x2 88 ∧ (∀ a_now_10 : Nat → Int32, a_now_10 = upd a_now x2.toNatClampNeg 0 → (∀ x2_11 : Int32, x2_11 = x2 + 1 → ((wp_X10_loadTrivial_L19 KL19 x1 fu) x2_11 a_now_10))))) ∧ (¬ x1 ≤ z_8 → (∀ z_12 : Int32, z_12 = x2 - x2 / 6 * 6 → ((x1 ≤ z_12 → (vp_in x2 88 ∧ (∀ a_now_14 : Nat → Int32, a_now_14 = upd a_now x2.toNatClampNeg 0 → (∀ x2_15 : Int32, x2_15 = x2 + 1 → ((wp_X10_loadTrivial_L19 KL19 x1 fu) x2_15 a_now_14))))) ∧ (¬ x1 ≤ z_12 → (∀ z_16 : Int32, z_16 = x2 / 6 → (vp_in x2 88 ∧ (∀ a_now_17 : Nat → Int32, a_now_17 = upd a_now x2.toNatClampNeg z_16 → (∀ x2_18 : Int32, x2_18 = x2 + 1 → ((wp_X10_loadTrivial_L19 KL19 x1 fu) x2_18 a_now_17)))))))))))))
def wp_X10_loadTrivial (post : Int32 → Int32 → (Nat → Int32) → (Nat → Int32) → Prop) (f_edits : Int32) (a_now : Nat → Int32) (a_history : Nat → Int32) (x1 : Int32) : Prop := (wp_X10_in (fun (r_1 : Int32) => ((¬ r_1 = 0 → (wp_X10_loads (fun (f_edits_3 : Int32) (a_now_4 : Nat → Int32) (a_history_5 : Nat → Int32) => (∃ fu_20 : Nat, wp_X10_loadTrivial_L19 (fun (a_now_19 : Nat → Int32) => (post x1 f_edits_3 a_now_19 a_history_5)) x1 fu_20 0 a_now_4)) f_edits a_now a_history x1)) ∧ (r_1 = 0 → (post (-1) f_edits a_now a_history)))) x1 1 6)
set_option maxHeartbeats 4000000 in
set_option maxRecDepth 100000 in
theorem l_X10_loadTrivial_19 {p : Program} {l : Launch} {e : Env} {s : State} {m : MethodId} {args : Array Value} {below : List Frame} {meth : Method} {c : Code} {G : qn_G} {A : Nat → Prop} {h_this h_now h_history h_over h_order h_colors h_row h_three h_seen h_group : Nat} {f_edits : Int32} {f_total : Int32} {a_history : Nat → Int32} {x1 : Int32} {post : Int32 → Int32 → (Nat → Int32) → (Nat → Int32) → Prop} {KL19 : (Nat → Int32) → Prop} (C0 : qn_C p m c cX10_loadTrivial 3 s args wsX10_loadTrivial RX10 meth (some .int)) (hE : qn_EV G s) (hA : ∀ q, s.heap.size ≤ q → A q) (hKc : ∀ (a_now : Nat → Int32), KL19 a_now → ∀ (H : Heap) (locs : List Loc) (ls : Array Slot), va_P G.1 vwCl (wd_X10_loadTrivial G h_this h_now h_history h_over h_order h_colors h_row h_three h_seen h_group f_edits f_total a_now a_history) H → va_D A (wd_X10_loadTrivial G h_this h_now h_history h_over h_order h_colors h_row h_three h_seen h_group f_edits f_total a_now a_history) → va_S A s.heap H locs → lv_has ls 3 [(1, .int x1)] → W p l e (headSpec wsX10_loadTrivial rm_X10_loadTrivial).room s m args below meth c H locs 0 0 (MQ below (qn_QI G (fun (r : Int32) (u : Int32 × (Nat → Int32) × (Nat → Int32)) => post r u.1 u.2.1 u.2.2) (fun u : Int32 × (Nat → Int32) × (Nat → Int32) => wd_X10_loadTrivial G h_this h_now h_history h_over h_order h_colors h_row h_three h_seen h_group (u.1) f_total (u.2.1) (u.2.2)) A) args s 0 0 A) (F0 m 61 ls [])) :
    ∀ (fu : Nat) (x2 : Int32) (a_now : Nat → Int32), wp_X10_loadTrivial_L19 KL19 x1 fu x2 a_now → ∀ (H : Heap) (locs : List Loc) (ls : Array Slot), va_P G.1 vwCl (wd_X10_loadTrivial G h_this h_now h_history h_over h_order h_colors h_row h_three h_seen h_group f_edits f_total a_now a_history) H → va_D A (wd_X10_loadTrivial G h_this h_now h_history h_over h_order h_colors h_row h_three h_seen h_group f_edits f_total a_now a_history) → va_S A s.heap H locs → lv_has ls 3 [(0, .ref h_this), (1, .int x1), (2, .int x2)] → W p l e (headSpec wsX10_loadTrivial rm_X10_loadTrivial).room s m args below meth c H locs 0 0 (MQ below (qn_QI G (fun (r : Int32) (u : Int32 × (Nat → Int32) × (Nat → Int32)) => post r u.1 u.2.1 u.2.2) (fun u : Int32 × (Nat → Int32) × (Nat → Int32) => wd_X10_loadTrivial G h_this h_now h_history h_over h_order h_colors h_row h_three h_seen h_group (u.1) f_total (u.2.1) (u.2.2)) A) args s 0 0 A) (F0 m 19 ls []) := by
  obtain ⟨hx, hb, hml, hown, hts, hr, hlocks⟩ := id C0
  intro fu
  induction fu with
  | zero => intro x2 a_now hw; exact hw.elim
  | succ fu ih =>
    intro x2 a_now hw H locs ls hP hD hS hl
    refine lv_iload_n hx hb dX10_loadTrivial_19 rfl (lv_at hl 2 rfl) ?_
    refine lv_bipush (v := 36) hx hb dX10_loadTrivial_20 (by decide) ?_
    refine lv_icmp_ge (tgt := 61) hx hb dX10_loadTrivial_22 (by decide) (fun c_7 => ?_) (fun c_7 => ?_)
    · have hw := hw.1 c_7
      exact hKc a_now hw _ _ _ hP hD hS (lv_sub hl [1] rfl)
    · have hw := hw.2 c_7
      refine lv_aload_n hx hb dX10_loadTrivial_25 rfl (lv_at hl 0 rfl) ?_
      refine va_get (D := G.1) (ci := 10) (v := .ref h_now) (C := RX10) (T := TX10) (N := 11) hx hb hts in_X10_loadTrivial_X10 hown hE.1 hP 0 rfl rfl 0 (by decide) (hts (.fieldLink RX10 7 "QuandleColoringsModel" "now" "[I") lk_X10_loadTrivial_7) (fun _ h9 => h9) rfl dX10_loadTrivial_26 ?_
      refine lv_iload_n hx hb dX10_loadTrivial_29 rfl (lv_at hl 2 rfl) ?_
      refine lv_iload_n hx hb dX10_loadTrivial_30 rfl (lv_at hl 2 rfl) ?_
      refine lv_bipush (v := 6) hx hb dX10_loadTrivial_31 (by decide) ?_
      refine lv_idiv hx hb dX10_loadTrivial_33 (by decide) ?_
      refine lv_topi (fun z_8 ez_8 => ?_)
      have hw := hw z_8 ez_8
      refine lv_iload_n hx hb dX10_loadTrivial_34 rfl (lv_at hl 1 rfl) ?_
      refine lv_icmp_ge (tgt := 53) hx hb dX10_loadTrivial_35 (by decide) (fun c_9 => ?_) (fun c_9 => ?_)
      · have hw := hw.1 c_9
        refine lv_iconst (v := 0) hx hb dX10_loadTrivial_53 (by decide) ?_
        have hin := hw.1
        have hw := hw.2
        obtain ⟨a_now_10, ea_now_10⟩ : ∃ y : Nat → Int32, y = upd a_now x2.toNatClampNeg 0 := ⟨_, rfl⟩
        have hw := hw a_now_10 ea_now_10
        refine va_iast hx hb hE.1 hP hD hS 1 0 rfl rfl hin dX10_loadTrivial_54 (fun H locs hP hD hS => ?_)
        rw [← ea_now_10] at hP hD
        have hP : va_P G.1 vwCl (wd_X10_loadTrivial G h_this h_now h_history h_over h_order h_colors h_row h_three h_seen h_group f_edits f_total a_now_10 a_history) H := hP
        have hD : va_D A (wd_X10_loadTrivial G h_this h_now h_history h_over h_order h_colors h_row h_three h_seen h_group f_edits f_total a_now_10 a_history) := hD
        obtain ⟨x2_11, ex2_11⟩ : ∃ y : Int32, y = x2 + 1 := ⟨_, rfl⟩
        have hw := hw x2_11 ex2_11
        refine lv_iinc (v := x2_11) (lv' := [(2, .int x2_11), (0, .ref h_this), (1, .int x1)]) hx hb dX10_loadTrivial_55 hl (k := 2) rfl (by rw [ex2_11]; rfl) (by decide) rfl (fun ls hl => ?_)
        refine lv_goto (tgt := 19) hx hb dX10_loadTrivial_58 (by decide) ?_
        exact ih x2_11 a_now_10 hw _ _ _ hP hD hS (lv_sub hl [1, 2, 0] rfl)
      · have hw := hw.2 c_9
        refine lv_iload_n hx hb dX10_loadTrivial_38 rfl (lv_at hl 2 rfl) ?_
        refine lv_bipush (v := 6) hx hb dX10_loadTrivial_39 (by decide) ?_
        refine lv_irem hx hb dX10_loadTrivial_41 (by decide) ?_
        refine lv_topi (fun z_12 ez_12 => ?_)
        have hw := hw z_12 ez_12
        refine lv_iload_n hx hb dX10_loadTrivial_42 rfl (lv_at hl 1 rfl) ?_
        refine lv_icmp_ge (tgt := 53) hx hb dX10_loadTrivial_43 (by decide) (fun c_13 => ?_) (fun c_13 => ?_)
        · have hw := hw.1 c_13
          refine lv_iconst (v := 0) hx hb dX10_loadTrivial_53 (by decide) ?_
          have hin := hw.1
          have hw := hw.2
          obtain ⟨a_now_14, ea_now_14⟩ : ∃ y : Nat → Int32, y = upd a_now x2.toNatClampNeg 0 := ⟨_, rfl⟩
          have hw := hw a_now_14 ea_now_14
          refine va_iast hx hb hE.1 hP hD hS 1 0 rfl rfl hin dX10_loadTrivial_54 (fun H locs hP hD hS => ?_)
          rw [← ea_now_14] at hP hD
          have hP : va_P G.1 vwCl (wd_X10_loadTrivial G h_this h_now h_history h_over h_order h_colors h_row h_three h_seen h_group f_edits f_total a_now_14 a_history) H := hP
          have hD : va_D A (wd_X10_loadTrivial G h_this h_now h_history h_over h_order h_colors h_row h_three h_seen h_group f_edits f_total a_now_14 a_history) := hD
          obtain ⟨x2_15, ex2_15⟩ : ∃ y : Int32, y = x2 + 1 := ⟨_, rfl⟩
          have hw := hw x2_15 ex2_15
          refine lv_iinc (v := x2_15) (lv' := [(2, .int x2_15), (0, .ref h_this), (1, .int x1)]) hx hb dX10_loadTrivial_55 hl (k := 2) rfl (by rw [ex2_15]; rfl) (by decide) rfl (fun ls hl => ?_)
          refine lv_goto (tgt := 19) hx hb dX10_loadTrivial_58 (by decide) ?_
          exact ih x2_15 a_now_14 hw _ _ _ hP hD hS (lv_sub hl [1, 2, 0] rfl)
        · have hw := hw.2 c_13
          refine lv_iload_n hx hb dX10_loadTrivial_46 rfl (lv_at hl 2 rfl) ?_
          refine lv_bipush (v := 6) hx hb dX10_loadTrivial_47 (by decide) ?_
          refine lv_idiv hx hb dX10_loadTrivial_49 (by decide) ?_
          refine lv_topi (fun z_16 ez_16 => ?_)
          have hw := hw z_16 ez_16
          refine lv_goto (tgt := 54) hx hb dX10_loadTrivial_50 (by decide) ?_
          have hin := hw.1
          have hw := hw.2
          obtain ⟨a_now_17, ea_now_17⟩ : ∃ y : Nat → Int32, y = upd a_now x2.toNatClampNeg z_16 := ⟨_, rfl⟩
          have hw := hw a_now_17 ea_now_17
          refine va_iast hx hb hE.1 hP hD hS 1 0 rfl rfl hin dX10_loadTrivial_54 (fun H locs hP hD hS => ?_)
          rw [← ea_now_17] at hP hD
          have hP : va_P G.1 vwCl (wd_X10_loadTrivial G h_this h_now h_history h_over h_order h_colors h_row h_three h_seen h_group f_edits f_total a_now_17 a_history) H := hP
          have hD : va_D A (wd_X10_loadTrivial G h_this h_now h_history h_over h_order h_colors h_row h_three h_seen h_group f_edits f_total a_now_17 a_history) := hD
          obtain ⟨x2_18, ex2_18⟩ : ∃ y : Int32, y = x2 + 1 := ⟨_, rfl⟩
          have hw := hw x2_18 ex2_18
          refine lv_iinc (v := x2_18) (lv' := [(2, .int x2_18), (0, .ref h_this), (1, .int x1)]) hx hb dX10_loadTrivial_55 hl (k := 2) rfl (by rw [ex2_18]; rfl) (by decide) rfl (fun ls hl => ?_)
          refine lv_goto (tgt := 19) hx hb dX10_loadTrivial_58 (by decide) ?_
          exact ih x2_18 a_now_17 hw _ _ _ hP hD hS (lv_sub hl [1, 2, 0] rfl)
set_option maxHeartbeats 4000000 in
set_option maxRecDepth 100000 in
theorem c_X10_loadTrivial {l : Launch} (G : qn_G) (sz : Nat) (h_this h_now h_history h_over h_order h_colors h_row h_three h_seen h_group : Nat) (f_edits : Int32) (f_total : Int32) (a_now : Nat → Int32) (a_history : Nat → Int32) (x1 : Int32) {post : Int32 → Int32 → (Nat → Int32) → (Nat → Int32) → Prop} (hw : wp_X10_loadTrivial post f_edits a_now a_history x1) : Met l yX10_loadTrivial wsX10_loadTrivial rm_X10_loadTrivial (qn_PC G [.ref h_this, .int x1] sz (wd_X10_loadTrivial G h_this h_now h_history h_over h_order h_colors h_row h_three h_seen h_group f_edits f_total a_now a_history)) (qn_QI G (fun (r : Int32) (u : Int32 × (Nat → Int32) × (Nat → Int32)) => post r u.1 u.2.1 u.2.2) (fun u : Int32 × (Nat → Int32) × (Nat → Int32) => wd_X10_loadTrivial G h_this h_now h_history h_over h_order h_colors h_row h_three h_seen h_group (u.1) f_total (u.2.1) (u.2.2)) (va_A (wd_X10_loadTrivial G h_this h_now h_history h_over h_order h_colors h_row h_three h_seen h_group f_edits f_total a_now a_history) sz)) 0 0 (va_A (wd_X10_loadTrivial G h_this h_now h_history h_over h_order h_colors h_row h_three h_seen h_group f_edits f_total a_now a_history) sz) := by
  refine Met.ofW (cc := cX10_loadTrivial) (maxL := 3) (ret := (some .int)) (by decide) rfl ?_
  intro p e s m args below meth c s₁ B hml hv
  obtain ⟨rfl, hsz, hP, hE, hD0⟩ := hv
  have C0 : qn_C p m c cX10_loadTrivial 3 s _ wsX10_loadTrivial RX10 meth (some .int) := qn_C0 B hml
  obtain ⟨hx, hb, -, hown, hts, hr, hlocks⟩ := id C0
  subst hsz
  have hD := hD0.self (sz := s.heap.size)
  generalize hAe : va_A (wd_X10_loadTrivial G h_this h_now h_history h_over h_order h_colors h_row h_three h_seen h_group f_edits f_total a_now a_history) s.heap.size = A at hD ⊢
  have hA : ∀ q : Nat, s.heap.size ≤ q → A q := fun q h => by rw [← hAe]; exact Or.inr h
  clear hAe
  have hS : va_S A s.heap s.heap [] := va_S.rf
  have hl := lv_entry ([.ref h_this, .int x1]) (n := 3) (Nat.le_of_ble_eq_true rfl)
  rw [lg_entry_eq]
  generalize (lg_sl ([.ref h_this, .int x1]) ++ List.replicate (3 - (lg_sl ([.ref h_this, .int x1])).length) Slot.unset).toArray = ls at hl ⊢
  have hl : lv_has ls 3 [(0, .ref h_this), (1, .int x1)] := hl
  have hP : va_P G.1 vwCl (wd_X10_loadTrivial G h_this h_now h_history h_over h_order h_colors h_row h_three h_seen h_group f_edits f_total a_now a_history) s.heap := hP
  refine lv_iload_n hx hb dX10_loadTrivial_0 rfl (lv_at hl 1 rfl) ?_
  refine lv_iconst (v := 1) hx hb dX10_loadTrivial_1 (by decide) ?_
  refine lv_bipush (v := 6) hx hb dX10_loadTrivial_2 (by decide) ?_
  have hC9 : ([] : List Nat).map (fun i => (wd_X10_loadTrivial G h_this h_now h_history h_over h_order h_colors h_row h_three h_seen h_group f_edits f_total a_now a_history)[i]?) = (wd_X10_in G).map some := rfl
  refine qn_callI (wd := (fun u : Unit => wd_X10_loadTrivial G h_this h_now h_history h_over h_order h_colors h_row h_three h_seen h_group f_edits f_total a_now a_history)) [] (va_runS (As := [.int x1, .int 1, .int 6]) (rest := []) ⟨hx, hb, hml, hown, hts⟩ (c_X10_in G _ x1 1 6 hw) (va_cwS 3 hts gX10_loadTrivial_X10_in rfl rfl rfl (by decide +kernel) ⟨Nat.le_of_ble_eq_true rfl, Nat.le_of_ble_eq_true rfl⟩) (qn_preS hE hP hD [] hC9 (by decide +kernel)) rfl rfl hl.1 rfl (lv_room (Nat.le_of_ble_eq_true rfl)) dX10_loadTrivial_4 ⟨Nat.le_of_ble_eq_true rfl, Nat.le_of_ble_eq_true rfl⟩) hP hD hS hA hC9 [none, none, none] (M := 3) rfl (by decide +kernel) (fun _ => rfl) (fun _ => rfl) (fun r_1 _ H locs hw hP hD hS => ?_)
  try dsimp only at hw
  have hP : va_P G.1 vwCl (wd_X10_loadTrivial G h_this h_now h_history h_over h_order h_colors h_row h_three h_seen h_group f_edits f_total a_now a_history) H := hP
  have hD : va_D A (wd_X10_loadTrivial G h_this h_now h_history h_over h_order h_colors h_row h_three h_seen h_group f_edits f_total a_now a_history) := hD
  refine lv_if_ne (tgt := 12) hx hb dX10_loadTrivial_7 (by decide) (fun c_2 => ?_) (fun c_2 => ?_)
  · have hw := hw.1 c_2
    refine lv_aload_n hx hb dX10_loadTrivial_12 rfl (lv_at hl 0 rfl) ?_
    refine lv_iload_n hx hb dX10_loadTrivial_13 rfl (lv_at hl 1 rfl) ?_
    have hC9 : ([0, 1, 2]).map (fun i => (wd_X10_loadTrivial G h_this h_now h_history h_over h_order h_colors h_row h_three h_seen h_group f_edits f_total a_now a_history)[i]?) = (wd_X10_loads G h_this h_now h_history h_over h_order h_colors h_row h_three h_seen h_group f_edits f_total a_now a_history).map some := rfl
    refine qn_callV (wd := (fun u : Int32 × (Nat → Int32) × (Nat → Int32) => wd_X10_loadTrivial G h_this h_now h_history h_over h_order h_colors h_row h_three h_seen h_group (u.1) f_total (u.2.1) (u.2.2))) [0, 1, 2] (va_runV (As := [.int x1]) (rest := []) ⟨hx, hb, hml, hown, hts⟩ (c_X10_loads G _ h_this h_now h_history h_over h_order h_colors h_row h_three h_seen h_group f_edits f_total a_now a_history x1 hw) (cwV 1 hts gX10_loadTrivial_X10_loads rfl rfl rfl (by decide +kernel) ⟨Nat.le_of_ble_eq_true rfl, Nat.le_of_ble_eq_true rfl⟩) (qn_preV hE hP hD [0, 1, 2] hC9 (by decide +kernel) (ci := 10) rfl rfl) rfl rfl hl.1 rfl (lv_room (Nat.le_of_ble_eq_true rfl)) dX10_loadTrivial_14 ⟨Nat.le_of_ble_eq_true rfl, Nat.le_of_ble_eq_true rfl⟩) hP hD hS hA hC9 [some 0, some 1, some 2] (M := 3) rfl (by decide +kernel) (fun _ => rfl) (fun _ => rfl) (fun u_6 H locs hw hP hD hS => ?_)
    obtain ⟨f_edits_3, a_now_4, a_history_5⟩ := u_6
    try dsimp only at hw
    have hP : va_P G.1 vwCl (wd_X10_loadTrivial G h_this h_now h_history h_over h_order h_colors h_row h_three h_seen h_group f_edits_3 f_total a_now_4 a_history_5) H := hP
    have hD : va_D A (wd_X10_loadTrivial G h_this h_now h_history h_over h_order h_colors h_row h_three h_seen h_group f_edits_3 f_total a_now_4 a_history_5) := hD
    refine lv_iconst (v := 0) hx hb dX10_loadTrivial_17 (by decide) ?_
    refine lv_istore_n (lv' := [(2, .int 0), (0, .ref h_this), (1, .int x1)]) hx hb dX10_loadTrivial_18 rfl hl (by decide) rfl (fun ls hl => ?_)
    obtain ⟨fu_20, hw⟩ := hw
    refine l_X10_loadTrivial_19 (post := post) C0 hE hA (fun a_now_19 hw H locs ls hP hD hS hl => ?_) fu_20 0 a_now_4 hw _ _ _ hP hD hS (lv_sub hl [1, 2, 0] rfl)
    refine lv_iload_n hx hb dX10_loadTrivial_61 rfl (lv_at hl 0 rfl) ?_
    exact W.iret (v := x1) hx hb hr (fun t ht hW => ⟨⟨x1, (f_edits_3, a_now_19, a_history_5), rfl, hw, by rw [ht]; exact hP, hD⟩, hS.F ht⟩) hS.2.2 dX10_loadTrivial_62
  · have hw := hw.2 c_2
    refine lv_iconst (v := (-1)) hx hb dX10_loadTrivial_10 (by decide) ?_
    exact W.iret (v := (-1)) hx hb hr (fun t ht hW => ⟨⟨(-1), (f_edits, a_now, a_history), rfl, hw, by rw [ht]; exact hP, hD⟩, hS.F ht⟩) hS.2.2 dX10_loadTrivial_11
-- QuandleColoringsModel.alexander(II)V
abbrev rm_X10_alexander : Room := { frames := 2, cells := 0, slots := 0, locals := 43 }
abbrev wd_X10_alexander (G : qn_G) (h_this h_now h_history h_over h_order h_colors h_row h_three h_seen h_group : Nat) (f_edits : Int32) (f_total : Int32) (a_now : Nat → Int32) (a_history : Nat → Int32) : va_W := [(h_this, .inr (10, [.ref h_now, .ref h_history, .int f_edits, .ref h_over, .ref h_order, .ref h_colors, .int f_total, .ref h_row, .ref h_three, .ref h_seen, .ref h_group])), (h_now, .inl (G.2.1, 88, .inl a_now)), (h_history, .inl (G.2.1, 440, .inl a_history))]
theorem in_X10_alexander_X10 : ∀ w ∈ u_ws RX10 TX10 11, w ∈ wsX10_alexander := by decide +kernel
theorem lk_X10_alexander_7 : Cond.fieldLink RX10 7 "QuandleColoringsModel" "now" "[I" ∈ wsX10_alexander := by decide +kernel
def wp_X10_alexander_L15 (KL15 : (Nat → Int32) → Prop) (x1 : Int32) (x2 : Int32) (x3 : Int32) : Nat → Int32 → (Nat → Int32) → Prop
  | 0 => fun _ _ => False
  | fu + 1 => fun x4 a_now => ((x1 ≤ x4 → (KL15 a_now)) ∧ (¬ x1 ≤ x4 → (¬ x1 = 0 ∧ (∀ z_7 : Int32, z_7 = (((x2 * x3) + ((1 - x2) * x4)) + (36 * x1)) - (((x2 * x3) + ((1 - x2) * x4)) + (36 * x1)) / x1 * x1 → (vp_in ((6 * x3) + x4) 88 ∧ (∀ a_now_8 : Nat → Int32, a_now_8 = upd a_now ((6 * x3) + x4).toNatClampNeg z_7 → (∀ x4_9 : Int32, x4_9 = x4 + 1 → ((wp_X10_alexander_L15 KL15 x1 x2 x3 fu) x4_9 a_now_8))))))))
def wp_X10_alexander_L7 (KL7 : (Nat → Int32) → Prop) (x1 : Int32) (x2 : Int32) : Nat → Int32 → (Nat → Int32) → Prop
  | 0 => fun _ _ => False
  | fu + 1 => fun x3 a_now => ((x1 ≤ x3 → (KL7 a_now)) ∧ (¬ x1 ≤ x3 → (∃ fu_12 : Nat, wp_X10_alexander_L15 (fun (a_now_10 : Nat → Int32) => (∀ x3_11 : Int32, x3_11 = x3 + 1 → ((wp_X10_alexander_L7 KL7 x1 x2 fu) x3_11 a_now_10))) x1 x2 x3 fu_12 0 a_now)))
def wp_X10_alexander (post : Int32 → (Nat → Int32) → (Nat → Int32) → Prop) (f_edits : Int32) (a_now : Nat → Int32) (a_history : Nat → Int32) (x1 : Int32) (x2 : Int32) : Prop := (wp_X10_loads (fun (f_edits_1 : Int32) (a_now_2 : Nat → Int32) (a_history_3 : Nat → Int32) => (∃ fu_14 : Nat, wp_X10_alexander_L7 (fun (a_now_13 : Nat → Int32) => (post f_edits_1 a_now_13 a_history_3)) x1 x2 fu_14 0 a_now_2)) f_edits a_now a_history x1)
set_option maxHeartbeats 4000000 in
set_option maxRecDepth 100000 in
theorem l_X10_alexander_15 {p : Program} {l : Launch} {e : Env} {s : State} {m : MethodId} {args : Array Value} {below : List Frame} {meth : Method} {c : Code} {G : qn_G} {A : Nat → Prop} {h_this h_now h_history h_over h_order h_colors h_row h_three h_seen h_group : Nat} {f_edits : Int32} {f_total : Int32} {a_history : Nat → Int32} {x1 : Int32} {x2 : Int32} {x3 : Int32} {post : Int32 → (Nat → Int32) → (Nat → Int32) → Prop} {KL15 : (Nat → Int32) → Prop} (C0 : qn_C p m c cX10_alexander 5 s args wsX10_alexander RX10 meth none) (hE : qn_EV G s) (hA : ∀ q, s.heap.size ≤ q → A q) (hKc : ∀ (a_now : Nat → Int32), KL15 a_now → ∀ (H : Heap) (locs : List Loc) (ls : Array Slot), va_P G.1 vwCl (wd_X10_alexander G h_this h_now h_history h_over h_order h_colors h_row h_three h_seen h_group f_edits f_total a_now a_history) H → va_D A (wd_X10_alexander G h_this h_now h_history h_over h_order h_colors h_row h_three h_seen h_group f_edits f_total a_now a_history) → va_S A s.heap H locs → lv_has ls 5 [(0, .ref h_this), (1, .int x1), (2, .int x2), (3, .int x3)] → W p l e (headSpec wsX10_alexander rm_X10_alexander).room s m args below meth c H locs 0 0 (MQ below (qn_QV G (fun (u : Int32 × (Nat → Int32) × (Nat → Int32)) => post u.1 u.2.1 u.2.2) (fun u : Int32 × (Nat → Int32) × (Nat → Int32) => wd_X10_alexander G h_this h_now h_history h_over h_order h_colors h_row h_three h_seen h_group (u.1) f_total (u.2.1) (u.2.2)) A) args s 0 0 A) (F0 m 56 ls [])) :
    ∀ (fu : Nat) (x4 : Int32) (a_now : Nat → Int32), wp_X10_alexander_L15 KL15 x1 x2 x3 fu x4 a_now → ∀ (H : Heap) (locs : List Loc) (ls : Array Slot), va_P G.1 vwCl (wd_X10_alexander G h_this h_now h_history h_over h_order h_colors h_row h_three h_seen h_group f_edits f_total a_now a_history) H → va_D A (wd_X10_alexander G h_this h_now h_history h_over h_order h_colors h_row h_three h_seen h_group f_edits f_total a_now a_history) → va_S A s.heap H locs → lv_has ls 5 [(0, .ref h_this), (1, .int x1), (2, .int x2), (3, .int x3), (4, .int x4)] → W p l e (headSpec wsX10_alexander rm_X10_alexander).room s m args below meth c H locs 0 0 (MQ below (qn_QV G (fun (u : Int32 × (Nat → Int32) × (Nat → Int32)) => post u.1 u.2.1 u.2.2) (fun u : Int32 × (Nat → Int32) × (Nat → Int32) => wd_X10_alexander G h_this h_now h_history h_over h_order h_colors h_row h_three h_seen h_group (u.1) f_total (u.2.1) (u.2.2)) A) args s 0 0 A) (F0 m 15 ls []) := by
  obtain ⟨hx, hb, hml, hown, hts, hr, hlocks⟩ := id C0
  intro fu
  induction fu with
  | zero => intro x4 a_now hw; exact hw.elim
  | succ fu ih =>
    intro x4 a_now hw H locs ls hP hD hS hl
    refine lv_iload hx hb dX10_alexander_15 (lv_at hl 4 rfl) ?_
    refine lv_iload_n hx hb dX10_alexander_17 rfl (lv_at hl 1 rfl) ?_
    refine lv_icmp_ge (tgt := 56) hx hb dX10_alexander_18 (by decide) (fun c_6 => ?_) (fun c_6 => ?_)
    · have hw := hw.1 c_6
      exact hKc a_now hw _ _ _ hP hD hS (lv_sub hl [0, 1, 2, 3] rfl)
    · have hw := hw.2 c_6
      refine lv_aload_n hx hb dX10_alexander_21 rfl (lv_at hl 0 rfl) ?_
      refine va_get (D := G.1) (ci := 10) (v := .ref h_now) (C := RX10) (T := TX10) (N := 11) hx hb hts in_X10_alexander_X10 hown hE.1 hP 0 rfl rfl 0 (by decide) (hts (.fieldLink RX10 7 "QuandleColoringsModel" "now" "[I") lk_X10_alexander_7) (fun _ h9 => h9) rfl dX10_alexander_22 ?_
      refine lv_bipush (v := 6) hx hb dX10_alexander_25 (by decide) ?_
      refine lv_iload_n hx hb dX10_alexander_27 rfl (lv_at hl 3 rfl) ?_
      refine lv_imul hx hb dX10_alexander_28 ?_
      refine lv_iload hx hb dX10_alexander_29 (lv_at hl 4 rfl) ?_
      refine lv_iadd hx hb dX10_alexander_31 ?_
      refine lv_iload_n hx hb dX10_alexander_32 rfl (lv_at hl 2 rfl) ?_
      refine lv_iload_n hx hb dX10_alexander_33 rfl (lv_at hl 3 rfl) ?_
      refine lv_imul hx hb dX10_alexander_34 ?_
      refine lv_iconst (v := 1) hx hb dX10_alexander_35 (by decide) ?_
      refine lv_iload_n hx hb dX10_alexander_36 rfl (lv_at hl 2 rfl) ?_
      refine lv_isub hx hb dX10_alexander_37 ?_
      refine lv_iload hx hb dX10_alexander_38 (lv_at hl 4 rfl) ?_
      refine lv_imul hx hb dX10_alexander_40 ?_
      refine lv_iadd hx hb dX10_alexander_41 ?_
      refine lv_bipush (v := 36) hx hb dX10_alexander_42 (by decide) ?_
      refine lv_iload_n hx hb dX10_alexander_44 rfl (lv_at hl 1 rfl) ?_
      refine lv_imul hx hb dX10_alexander_45 ?_
      refine lv_iadd hx hb dX10_alexander_46 ?_
      refine lv_iload_n hx hb dX10_alexander_47 rfl (lv_at hl 1 rfl) ?_
      have hne := hw.1
      have hw := hw.2
      refine lv_irem hx hb dX10_alexander_48 hne ?_
      refine lv_topi (fun z_7 ez_7 => ?_)
      have hw := hw z_7 ez_7
      have hin := hw.1
      have hw := hw.2
      obtain ⟨a_now_8, ea_now_8⟩ : ∃ y : Nat → Int32, y = upd a_now ((6 * x3) + x4).toNatClampNeg z_7 := ⟨_, rfl⟩
      have hw := hw a_now_8 ea_now_8
      refine va_iast hx hb hE.1 hP hD hS 1 0 rfl rfl hin dX10_alexander_49 (fun H locs hP hD hS => ?_)
      rw [← ea_now_8] at hP hD
      have hP : va_P G.1 vwCl (wd_X10_alexander G h_this h_now h_history h_over h_order h_colors h_row h_three h_seen h_group f_edits f_total a_now_8 a_history) H := hP
      have hD : va_D A (wd_X10_alexander G h_this h_now h_history h_over h_order h_colors h_row h_three h_seen h_group f_edits f_total a_now_8 a_history) := hD
      obtain ⟨x4_9, ex4_9⟩ : ∃ y : Int32, y = x4 + 1 := ⟨_, rfl⟩
      have hw := hw x4_9 ex4_9
      refine lv_iinc (v := x4_9) (lv' := [(4, .int x4_9), (0, .ref h_this), (1, .int x1), (2, .int x2), (3, .int x3)]) hx hb dX10_alexander_50 hl (k := 4) rfl (by rw [ex4_9]; rfl) (by decide) rfl (fun ls hl => ?_)
      refine lv_goto (tgt := 15) hx hb dX10_alexander_53 (by decide) ?_
      exact ih x4_9 a_now_8 hw _ _ _ hP hD hS (lv_sub hl [1, 2, 3, 4, 0] rfl)
set_option maxHeartbeats 4000000 in
set_option maxRecDepth 100000 in
theorem l_X10_alexander_7 {p : Program} {l : Launch} {e : Env} {s : State} {m : MethodId} {args : Array Value} {below : List Frame} {meth : Method} {c : Code} {G : qn_G} {A : Nat → Prop} {h_this h_now h_history h_over h_order h_colors h_row h_three h_seen h_group : Nat} {f_edits : Int32} {f_total : Int32} {a_history : Nat → Int32} {x1 : Int32} {x2 : Int32} {post : Int32 → (Nat → Int32) → (Nat → Int32) → Prop} {KL7 : (Nat → Int32) → Prop} (C0 : qn_C p m c cX10_alexander 5 s args wsX10_alexander RX10 meth none) (hE : qn_EV G s) (hA : ∀ q, s.heap.size ≤ q → A q) (hKc : ∀ (a_now : Nat → Int32), KL7 a_now → ∀ (H : Heap) (locs : List Loc) (ls : Array Slot), va_P G.1 vwCl (wd_X10_alexander G h_this h_now h_history h_over h_order h_colors h_row h_three h_seen h_group f_edits f_total a_now a_history) H → va_D A (wd_X10_alexander G h_this h_now h_history h_over h_order h_colors h_row h_three h_seen h_group f_edits f_total a_now a_history) → va_S A s.heap H locs → lv_has ls 5 [] → W p l e (headSpec wsX10_alexander rm_X10_alexander).room s m args below meth c H locs 0 0 (MQ below (qn_QV G (fun (u : Int32 × (Nat → Int32) × (Nat → Int32)) => post u.1 u.2.1 u.2.2) (fun u : Int32 × (Nat → Int32) × (Nat → Int32) => wd_X10_alexander G h_this h_now h_history h_over h_order h_colors h_row h_three h_seen h_group (u.1) f_total (u.2.1) (u.2.2)) A) args s 0 0 A) (F0 m 62 ls [])) :
    ∀ (fu : Nat) (x3 : Int32) (a_now : Nat → Int32), wp_X10_alexander_L7 KL7 x1 x2 fu x3 a_now → ∀ (H : Heap) (locs : List Loc) (ls : Array Slot), va_P G.1 vwCl (wd_X10_alexander G h_this h_now h_history h_over h_order h_colors h_row h_three h_seen h_group f_edits f_total a_now a_history) H → va_D A (wd_X10_alexander G h_this h_now h_history h_over h_order h_colors h_row h_three h_seen h_group f_edits f_total a_now a_history) → va_S A s.heap H locs → lv_has ls 5 [(0, .ref h_this), (1, .int x1), (2, .int x2), (3, .int x3)] → W p l e (headSpec wsX10_alexander rm_X10_alexander).room s m args below meth c H locs 0 0 (MQ below (qn_QV G (fun (u : Int32 × (Nat → Int32) × (Nat → Int32)) => post u.1 u.2.1 u.2.2) (fun u : Int32 × (Nat → Int32) × (Nat → Int32) => wd_X10_alexander G h_this h_now h_history h_over h_order h_colors h_row h_three h_seen h_group (u.1) f_total (u.2.1) (u.2.2)) A) args s 0 0 A) (F0 m 7 ls []) := by
  obtain ⟨hx, hb, hml, hown, hts, hr, hlocks⟩ := id C0
  intro fu
  induction fu with
  | zero => intro x3 a_now hw; exact hw.elim
  | succ fu ih =>
    intro x3 a_now hw H locs ls hP hD hS hl
    refine lv_iload_n hx hb dX10_alexander_7 rfl (lv_at hl 3 rfl) ?_
    refine lv_iload_n hx hb dX10_alexander_8 rfl (lv_at hl 1 rfl) ?_
    refine lv_icmp_ge (tgt := 62) hx hb dX10_alexander_9 (by decide) (fun c_5 => ?_) (fun c_5 => ?_)
    · have hw := hw.1 c_5
      exact hKc a_now hw _ _ _ hP hD hS (lv_sub hl [] rfl)
    · have hw := hw.2 c_5
      refine lv_iconst (v := 0) hx hb dX10_alexander_12 (by decide) ?_
      refine lv_istore (lv' := [(4, .int 0), (0, .ref h_this), (1, .int x1), (2, .int x2), (3, .int x3)]) hx hb dX10_alexander_13 hl (by decide) rfl (fun ls hl => ?_)
      obtain ⟨fu_12, hw⟩ := hw
      refine l_X10_alexander_15 (post := post) C0 hE hA (fun a_now_10 hw H locs ls hP hD hS hl => ?_) fu_12 0 a_now hw _ _ _ hP hD hS (lv_sub hl [1, 2, 3, 4, 0] rfl)
      obtain ⟨x3_11, ex3_11⟩ : ∃ y : Int32, y = x3 + 1 := ⟨_, rfl⟩
      have hw := hw x3_11 ex3_11
      refine lv_iinc (v := x3_11) (lv' := [(3, .int x3_11), (0, .ref h_this), (1, .int x1), (2, .int x2)]) hx hb dX10_alexander_56 hl (k := 3) rfl (by rw [ex3_11]; rfl) (by decide) rfl (fun ls hl => ?_)
      refine lv_goto (tgt := 7) hx hb dX10_alexander_59 (by decide) ?_
      exact ih x3_11 a_now_10 hw _ _ _ hP hD hS (lv_sub hl [1, 2, 3, 0] rfl)
set_option maxHeartbeats 4000000 in
set_option maxRecDepth 100000 in
theorem c_X10_alexander {l : Launch} (G : qn_G) (sz : Nat) (h_this h_now h_history h_over h_order h_colors h_row h_three h_seen h_group : Nat) (f_edits : Int32) (f_total : Int32) (a_now : Nat → Int32) (a_history : Nat → Int32) (x1 : Int32) (x2 : Int32) {post : Int32 → (Nat → Int32) → (Nat → Int32) → Prop} (hw : wp_X10_alexander post f_edits a_now a_history x1 x2) : Met l yX10_alexander wsX10_alexander rm_X10_alexander (qn_PC G [.ref h_this, .int x1, .int x2] sz (wd_X10_alexander G h_this h_now h_history h_over h_order h_colors h_row h_three h_seen h_group f_edits f_total a_now a_history)) (qn_QV G (fun (u : Int32 × (Nat → Int32) × (Nat → Int32)) => post u.1 u.2.1 u.2.2) (fun u : Int32 × (Nat → Int32) × (Nat → Int32) => wd_X10_alexander G h_this h_now h_history h_over h_order h_colors h_row h_three h_seen h_group (u.1) f_total (u.2.1) (u.2.2)) (va_A (wd_X10_alexander G h_this h_now h_history h_over h_order h_colors h_row h_three h_seen h_group f_edits f_total a_now a_history) sz)) 0 0 (va_A (wd_X10_alexander G h_this h_now h_history h_over h_order h_colors h_row h_three h_seen h_group f_edits f_total a_now a_history) sz) := by
  refine Met.ofW (cc := cX10_alexander) (maxL := 5) (ret := none) (by decide) rfl ?_
  intro p e s m args below meth c s₁ B hml hv
  obtain ⟨rfl, hsz, hP, hE, hD0⟩ := hv
  have C0 : qn_C p m c cX10_alexander 5 s _ wsX10_alexander RX10 meth none := qn_C0 B hml
  obtain ⟨hx, hb, -, hown, hts, hr, hlocks⟩ := id C0
  subst hsz
  have hD := hD0.self (sz := s.heap.size)
  generalize hAe : va_A (wd_X10_alexander G h_this h_now h_history h_over h_order h_colors h_row h_three h_seen h_group f_edits f_total a_now a_history) s.heap.size = A at hD ⊢
  have hA : ∀ q : Nat, s.heap.size ≤ q → A q := fun q h => by rw [← hAe]; exact Or.inr h
  clear hAe
  have hS : va_S A s.heap s.heap [] := va_S.rf
  have hl := lv_entry ([.ref h_this, .int x1, .int x2]) (n := 5) (Nat.le_of_ble_eq_true rfl)
  rw [lg_entry_eq]
  generalize (lg_sl ([.ref h_this, .int x1, .int x2]) ++ List.replicate (5 - (lg_sl ([.ref h_this, .int x1, .int x2])).length) Slot.unset).toArray = ls at hl ⊢
  have hl : lv_has ls 5 [(0, .ref h_this), (1, .int x1), (2, .int x2)] := hl
  have hP : va_P G.1 vwCl (wd_X10_alexander G h_this h_now h_history h_over h_order h_colors h_row h_three h_seen h_group f_edits f_total a_now a_history) s.heap := hP
  refine lv_aload_n hx hb dX10_alexander_0 rfl (lv_at hl 0 rfl) ?_
  refine lv_iload_n hx hb dX10_alexander_1 rfl (lv_at hl 1 rfl) ?_
  have hC9 : ([0, 1, 2]).map (fun i => (wd_X10_alexander G h_this h_now h_history h_over h_order h_colors h_row h_three h_seen h_group f_edits f_total a_now a_history)[i]?) = (wd_X10_loads G h_this h_now h_history h_over h_order h_colors h_row h_three h_seen h_group f_edits f_total a_now a_history).map some := rfl
  refine qn_callV (wd := (fun u : Int32 × (Nat → Int32) × (Nat → Int32) => wd_X10_alexander G h_this h_now h_history h_over h_order h_colors h_row h_three h_seen h_group (u.1) f_total (u.2.1) (u.2.2))) [0, 1, 2] (va_runV (As := [.int x1]) (rest := []) ⟨hx, hb, hml, hown, hts⟩ (c_X10_loads G _ h_this h_now h_history h_over h_order h_colors h_row h_three h_seen h_group f_edits f_total a_now a_history x1 hw) (cwV 1 hts gX10_alexander_X10_loads rfl rfl rfl (by decide +kernel) ⟨Nat.le_of_ble_eq_true rfl, Nat.le_of_ble_eq_true rfl⟩) (qn_preV hE hP hD [0, 1, 2] hC9 (by decide +kernel) (ci := 10) rfl rfl) rfl rfl hl.1 rfl (lv_room (Nat.le_of_ble_eq_true rfl)) dX10_alexander_2 ⟨Nat.le_of_ble_eq_true rfl, Nat.le_of_ble_eq_true rfl⟩) hP hD hS hA hC9 [some 0, some 1, some 2] (M := 3) rfl (by decide +kernel) (fun _ => rfl) (fun _ => rfl) (fun u_4 H locs hw hP hD hS => ?_)
  obtain ⟨f_edits_1, a_now_2, a_history_3⟩ := u_4
  try dsimp only at hw
  have hP : va_P G.1 vwCl (wd_X10_alexander G h_this h_now h_history h_over h_order h_colors h_row h_three h_seen h_group f_edits_1 f_total a_now_2 a_history_3) H := hP
  have hD : va_D A (wd_X10_alexander G h_this h_now h_history h_over h_order h_colors h_row h_three h_seen h_group f_edits_1 f_total a_now_2 a_history_3) := hD
  refine lv_iconst (v := 0) hx hb dX10_alexander_5 (by decide) ?_
  refine lv_istore_n (lv' := [(3, .int 0), (0, .ref h_this), (1, .int x1), (2, .int x2)]) hx hb dX10_alexander_6 rfl hl (by decide) rfl (fun ls hl => ?_)
  obtain ⟨fu_14, hw⟩ := hw
  refine l_X10_alexander_7 (post := post) C0 hE hA (fun a_now_13 hw H locs ls hP hD hS hl => ?_) fu_14 0 a_now_2 hw _ _ _ hP hD hS (lv_sub hl [1, 2, 3, 0] rfl)
  exact W.vret hx hb hr (fun t ht hW => ⟨⟨(f_edits_1, a_now_13, a_history_3), rfl, hw, by rw [ht]; exact hP, hD⟩, hS.F ht⟩) hS.2.2 dX10_alexander_62
-- QuandleColoringsModel.loadDihedral(I)I
abbrev rm_X10_loadDihedral : Room := { frames := 3, cells := 0, slots := 0, locals := 67 }
abbrev wd_X10_loadDihedral (G : qn_G) (h_this h_now h_history h_over h_order h_colors h_row h_three h_seen h_group : Nat) (f_edits : Int32) (f_total : Int32) (a_now : Nat → Int32) (a_history : Nat → Int32) : va_W := [(h_this, .inr (10, [.ref h_now, .ref h_history, .int f_edits, .ref h_over, .ref h_order, .ref h_colors, .int f_total, .ref h_row, .ref h_three, .ref h_seen, .ref h_group])), (h_now, .inl (G.2.1, 88, .inl a_now)), (h_history, .inl (G.2.1, 440, .inl a_history))]
def wp_X10_loadDihedral (post : Int32 → Int32 → (Nat → Int32) → (Nat → Int32) → Prop) (f_edits : Int32) (a_now : Nat → Int32) (a_history : Nat → Int32) (x1 : Int32) : Prop := (wp_X10_in (fun (r_1 : Int32) => ((¬ r_1 = 0 → (wp_X10_alexander (fun (f_edits_3 : Int32) (a_now_4 : Nat → Int32) (a_history_5 : Nat → Int32) => (post x1 f_edits_3 a_now_4 a_history_5)) f_edits a_now a_history x1 (-1))) ∧ (r_1 = 0 → (post (-1) f_edits a_now a_history)))) x1 1 6)
set_option maxHeartbeats 4000000 in
set_option maxRecDepth 100000 in
theorem c_X10_loadDihedral {l : Launch} (G : qn_G) (sz : Nat) (h_this h_now h_history h_over h_order h_colors h_row h_three h_seen h_group : Nat) (f_edits : Int32) (f_total : Int32) (a_now : Nat → Int32) (a_history : Nat → Int32) (x1 : Int32) {post : Int32 → Int32 → (Nat → Int32) → (Nat → Int32) → Prop} (hw : wp_X10_loadDihedral post f_edits a_now a_history x1) : Met l yX10_loadDihedral wsX10_loadDihedral rm_X10_loadDihedral (qn_PC G [.ref h_this, .int x1] sz (wd_X10_loadDihedral G h_this h_now h_history h_over h_order h_colors h_row h_three h_seen h_group f_edits f_total a_now a_history)) (qn_QI G (fun (r : Int32) (u : Int32 × (Nat → Int32) × (Nat → Int32)) => post r u.1 u.2.1 u.2.2) (fun u : Int32 × (Nat → Int32) × (Nat → Int32) => wd_X10_loadDihedral G h_this h_now h_history h_over h_order h_colors h_row h_three h_seen h_group (u.1) f_total (u.2.1) (u.2.2)) (va_A (wd_X10_loadDihedral G h_this h_now h_history h_over h_order h_colors h_row h_three h_seen h_group f_edits f_total a_now a_history) sz)) 0 0 (va_A (wd_X10_loadDihedral G h_this h_now h_history h_over h_order h_colors h_row h_three h_seen h_group f_edits f_total a_now a_history) sz) := by
  refine Met.ofW (cc := cX10_loadDihedral) (maxL := 2) (ret := (some .int)) (by decide) rfl ?_
  intro p e s m args below meth c s₁ B hml hv
  obtain ⟨rfl, hsz, hP, hE, hD0⟩ := hv
  have C0 : qn_C p m c cX10_loadDihedral 2 s _ wsX10_loadDihedral RX10 meth (some .int) := qn_C0 B hml
  obtain ⟨hx, hb, -, hown, hts, hr, hlocks⟩ := id C0
  subst hsz
  have hD := hD0.self (sz := s.heap.size)
  generalize hAe : va_A (wd_X10_loadDihedral G h_this h_now h_history h_over h_order h_colors h_row h_three h_seen h_group f_edits f_total a_now a_history) s.heap.size = A at hD ⊢
  have hA : ∀ q : Nat, s.heap.size ≤ q → A q := fun q h => by rw [← hAe]; exact Or.inr h
  clear hAe
  have hS : va_S A s.heap s.heap [] := va_S.rf
  have hl := lv_entry ([.ref h_this, .int x1]) (n := 2) (Nat.le_of_ble_eq_true rfl)
  rw [lg_entry_eq]
  generalize (lg_sl ([.ref h_this, .int x1]) ++ List.replicate (2 - (lg_sl ([.ref h_this, .int x1])).length) Slot.unset).toArray = ls at hl ⊢
  have hl : lv_has ls 2 [(0, .ref h_this), (1, .int x1)] := hl
  have hP : va_P G.1 vwCl (wd_X10_loadDihedral G h_this h_now h_history h_over h_order h_colors h_row h_three h_seen h_group f_edits f_total a_now a_history) s.heap := hP
  refine lv_iload_n hx hb dX10_loadDihedral_0 rfl (lv_at hl 1 rfl) ?_
  refine lv_iconst (v := 1) hx hb dX10_loadDihedral_1 (by decide) ?_
  refine lv_bipush (v := 6) hx hb dX10_loadDihedral_2 (by decide) ?_
  have hC9 : ([] : List Nat).map (fun i => (wd_X10_loadDihedral G h_this h_now h_history h_over h_order h_colors h_row h_three h_seen h_group f_edits f_total a_now a_history)[i]?) = (wd_X10_in G).map some := rfl
  refine qn_callI (wd := (fun u : Unit => wd_X10_loadDihedral G h_this h_now h_history h_over h_order h_colors h_row h_three h_seen h_group f_edits f_total a_now a_history)) [] (va_runS (As := [.int x1, .int 1, .int 6]) (rest := []) ⟨hx, hb, hml, hown, hts⟩ (c_X10_in G _ x1 1 6 hw) (va_cwS 3 hts gX10_loadDihedral_X10_in rfl rfl rfl (by decide +kernel) ⟨Nat.le_of_ble_eq_true rfl, Nat.le_of_ble_eq_true rfl⟩) (qn_preS hE hP hD [] hC9 (by decide +kernel)) rfl rfl hl.1 rfl (lv_room (Nat.le_of_ble_eq_true rfl)) dX10_loadDihedral_4 ⟨Nat.le_of_ble_eq_true rfl, Nat.le_of_ble_eq_true rfl⟩) hP hD hS hA hC9 [none, none, none] (M := 3) rfl (by decide +kernel) (fun _ => rfl) (fun _ => rfl) (fun r_1 _ H locs hw hP hD hS => ?_)
  try dsimp only at hw
  have hP : va_P G.1 vwCl (wd_X10_loadDihedral G h_this h_now h_history h_over h_order h_colors h_row h_three h_seen h_group f_edits f_total a_now a_history) H := hP
  have hD : va_D A (wd_X10_loadDihedral G h_this h_now h_history h_over h_order h_colors h_row h_three h_seen h_group f_edits f_total a_now a_history) := hD
  refine lv_if_ne (tgt := 12) hx hb dX10_loadDihedral_7 (by decide) (fun c_2 => ?_) (fun c_2 => ?_)
  · have hw := hw.1 c_2
    refine lv_aload_n hx hb dX10_loadDihedral_12 rfl (lv_at hl 0 rfl) ?_
    refine lv_iload_n hx hb dX10_loadDihedral_13 rfl (lv_at hl 1 rfl) ?_
    refine lv_iconst (v := (-1)) hx hb dX10_loadDihedral_14 (by decide) ?_
    have hC9 : ([0, 1, 2]).map (fun i => (wd_X10_loadDihedral G h_this h_now h_history h_over h_order h_colors h_row h_three h_seen h_group f_edits f_total a_now a_history)[i]?) = (wd_X10_alexander G h_this h_now h_history h_over h_order h_colors h_row h_three h_seen h_group f_edits f_total a_now a_history).map some := rfl
    refine qn_callV (wd := (fun u : Int32 × (Nat → Int32) × (Nat → Int32) => wd_X10_loadDihedral G h_this h_now h_history h_over h_order h_colors h_row h_three h_seen h_group (u.1) f_total (u.2.1) (u.2.2))) [0, 1, 2] (va_runV (As := [.int x1, .int (-1)]) (rest := []) ⟨hx, hb, hml, hown, hts⟩ (c_X10_alexander G _ h_this h_now h_history h_over h_order h_colors h_row h_three h_seen h_group f_edits f_total a_now a_history x1 (-1) hw) (cwV 2 hts gX10_loadDihedral_X10_alexander rfl rfl rfl (by decide +kernel) ⟨Nat.le_of_ble_eq_true rfl, Nat.le_of_ble_eq_true rfl⟩) (qn_preV hE hP hD [0, 1, 2] hC9 (by decide +kernel) (ci := 10) rfl rfl) rfl rfl hl.1 rfl (lv_room (Nat.le_of_ble_eq_true rfl)) dX10_loadDihedral_15 ⟨Nat.le_of_ble_eq_true rfl, Nat.le_of_ble_eq_true rfl⟩) hP hD hS hA hC9 [some 0, some 1, some 2] (M := 3) rfl (by decide +kernel) (fun _ => rfl) (fun _ => rfl) (fun u_6 H locs hw hP hD hS => ?_)
    obtain ⟨f_edits_3, a_now_4, a_history_5⟩ := u_6
    try dsimp only at hw
    have hP : va_P G.1 vwCl (wd_X10_loadDihedral G h_this h_now h_history h_over h_order h_colors h_row h_three h_seen h_group f_edits_3 f_total a_now_4 a_history_5) H := hP
    have hD : va_D A (wd_X10_loadDihedral G h_this h_now h_history h_over h_order h_colors h_row h_three h_seen h_group f_edits_3 f_total a_now_4 a_history_5) := hD
    refine lv_iload_n hx hb dX10_loadDihedral_18 rfl (lv_at hl 1 rfl) ?_
    exact W.iret (v := x1) hx hb hr (fun t ht hW => ⟨⟨x1, (f_edits_3, a_now_4, a_history_5), rfl, hw, by rw [ht]; exact hP, hD⟩, hS.F ht⟩) hS.2.2 dX10_loadDihedral_19
  · have hw := hw.2 c_2
    refine lv_iconst (v := (-1)) hx hb dX10_loadDihedral_10 (by decide) ?_
    exact W.iret (v := (-1)) hx hb hr (fun t ht hW => ⟨⟨(-1), (f_edits, a_now, a_history), rfl, hw, by rw [ht]; exact hP, hD⟩, hS.F ht⟩) hS.2.2 dX10_loadDihedral_11
-- QuandleColoringsModel.divisor(II)I
abbrev rm_X10_divisor : Room := { frames := 0, cells := 0, slots := 0, locals := 0 }
abbrev wd_X10_divisor (G : qn_G) : va_W := []
def wp_X10_divisor_L4 (KL4 : Int32 → Prop) : Nat → Int32 → Int32 → Prop
  | 0 => fun _ _ => False
  | fu + 1 => fun x2 x3 => ((x3 = 0 → (KL4 x2)) ∧ (¬ x3 = 0 → (¬ x3 = 0 ∧ (∀ z_2 : Int32, z_2 = x2 - x2 / x3 * x3 → ((wp_X10_divisor_L4 KL4 fu) x3 z_2)))))
def wp_X10_divisor (post : Int32 → Prop) (x0 : Int32) (x1 : Int32) : Prop := (∃ fu_4 : Nat, wp_X10_divisor_L4 (fun (x2_3 : Int32) => (post x2_3)) fu_4 x0 x1)
set_option maxHeartbeats 4000000 in
set_option maxRecDepth 100000 in
theorem l_X10_divisor_4 {p : Program} {l : Launch} {e : Env} {s : State} {m : MethodId} {args : Array Value} {below : List Frame} {meth : Method} {c : Code} {G : qn_G} {A : Nat → Prop} {post : Int32 → Prop} {KL4 : Int32 → Prop} (C0 : qn_C p m c cX10_divisor 5 s args wsX10_divisor RX10 meth (some .int)) (hE : qn_EV G s) (hA : ∀ q, s.heap.size ≤ q → A q) (hKc : ∀ (x2 : Int32), KL4 x2 → ∀ (H : Heap) (locs : List Loc) (ls : Array Slot), va_P G.1 vwCl (wd_X10_divisor G) H → va_D A (wd_X10_divisor G) → va_S A s.heap H locs → lv_has ls 5 [(2, .int x2)] → W p l e (headSpec wsX10_divisor rm_X10_divisor).room s m args below meth c H locs 0 0 (MQ below (qn_QI G (fun (r : Int32) (u : Unit) => post r) (fun u : Unit => wd_X10_divisor G) A) args s 0 0 A) (F0 m 21 ls [])) :
    ∀ (fu : Nat) (x2 : Int32) (x3 : Int32), wp_X10_divisor_L4 KL4 fu x2 x3 → ∀ (H : Heap) (locs : List Loc) (ls : Array Slot), va_P G.1 vwCl (wd_X10_divisor G) H → va_D A (wd_X10_divisor G) → va_S A s.heap H locs → lv_has ls 5 [(2, .int x2), (3, .int x3)] → W p l e (headSpec wsX10_divisor rm_X10_divisor).room s m args below meth c H locs 0 0 (MQ below (qn_QI G (fun (r : Int32) (u : Unit) => post r) (fun u : Unit => wd_X10_divisor G) A) args s 0 0 A) (F0 m 4 ls []) := by
  obtain ⟨hx, hb, hml, hown, hts, hr, hlocks⟩ := id C0
  intro fu
  induction fu with
  | zero => intro x2 x3 hw; exact hw.elim
  | succ fu ih =>
    intro x2 x3 hw H locs ls hP hD hS hl
    refine lv_iload_n hx hb dX10_divisor_4 rfl (lv_at hl 1 rfl) ?_
    refine lv_if_eq (tgt := 21) hx hb dX10_divisor_5 (by decide) (fun c_1 => ?_) (fun c_1 => ?_)
    · have hw := hw.1 c_1
      exact hKc x2 hw _ _ _ hP hD hS (lv_sub hl [0] rfl)
    · have hw := hw.2 c_1
      refine lv_iload_n hx hb dX10_divisor_8 rfl (lv_at hl 0 rfl) ?_
      refine lv_iload_n hx hb dX10_divisor_9 rfl (lv_at hl 1 rfl) ?_
      have hne := hw.1
      have hw := hw.2
      refine lv_irem hx hb dX10_divisor_10 hne ?_
      refine lv_topi (fun z_2 ez_2 => ?_)
      have hw := hw z_2 ez_2
      refine lv_istore (lv' := [(4, .int z_2), (2, .int x2), (3, .int x3)]) hx hb dX10_divisor_11 hl (by decide) rfl (fun ls hl => ?_)
      refine lv_iload_n hx hb dX10_divisor_13 rfl (lv_at hl 2 rfl) ?_
      refine lv_istore_n (lv' := [(2, .int x3), (4, .int z_2), (3, .int x3)]) hx hb dX10_divisor_14 rfl hl (by decide) rfl (fun ls hl => ?_)
      refine lv_iload hx hb dX10_divisor_15 (lv_at hl 1 rfl) ?_
      refine lv_istore_n (lv' := [(3, .int z_2), (2, .int x3), (4, .int z_2)]) hx hb dX10_divisor_17 rfl hl (by decide) rfl (fun ls hl => ?_)
      refine lv_goto (tgt := 4) hx hb dX10_divisor_18 (by decide) ?_
      exact ih x3 z_2 hw _ _ _ hP hD hS (lv_sub hl [1, 0] rfl)
set_option maxHeartbeats 4000000 in
set_option maxRecDepth 100000 in
theorem c_X10_divisor {l : Launch} (G : qn_G) (sz : Nat) (x0 : Int32) (x1 : Int32) {post : Int32 → Prop} (hw : wp_X10_divisor post x0 x1) : Met l yX10_divisor wsX10_divisor rm_X10_divisor (qn_PC G [.int x0, .int x1] sz (wd_X10_divisor G)) (qn_QI G (fun (r : Int32) (u : Unit) => post r) (fun u : Unit => wd_X10_divisor G) (va_A (wd_X10_divisor G) sz)) 0 0 (va_A (wd_X10_divisor G) sz) := by
  refine Met.ofW (cc := cX10_divisor) (maxL := 5) (ret := (some .int)) (by decide) rfl ?_
  intro p e s m args below meth c s₁ B hml hv
  obtain ⟨rfl, hsz, hP, hE, hD0⟩ := hv
  have C0 : qn_C p m c cX10_divisor 5 s _ wsX10_divisor RX10 meth (some .int) := qn_C0 B hml
  obtain ⟨hx, hb, -, hown, hts, hr, hlocks⟩ := id C0
  subst hsz
  have hD := hD0.self (sz := s.heap.size)
  generalize hAe : va_A (wd_X10_divisor G) s.heap.size = A at hD ⊢
  have hA : ∀ q : Nat, s.heap.size ≤ q → A q := fun q h => by rw [← hAe]; exact Or.inr h
  clear hAe
  have hS : va_S A s.heap s.heap [] := va_S.rf
  have hl := lv_entry ([.int x0, .int x1]) (n := 5) (Nat.le_of_ble_eq_true rfl)
  rw [lg_entry_eq]
  generalize (lg_sl ([.int x0, .int x1]) ++ List.replicate (5 - (lg_sl ([.int x0, .int x1])).length) Slot.unset).toArray = ls at hl ⊢
  have hl : lv_has ls 5 [(0, .int x0), (1, .int x1)] := hl
  have hP : va_P G.1 vwCl (wd_X10_divisor G) s.heap := hP
  refine lv_iload_n hx hb dX10_divisor_0 rfl (lv_at hl 0 rfl) ?_
  refine lv_istore_n (lv' := [(2, .int x0), (0, .int x0), (1, .int x1)]) hx hb dX10_divisor_1 rfl hl (by decide) rfl (fun ls hl => ?_)
  refine lv_iload_n hx hb dX10_divisor_2 rfl (lv_at hl 2 rfl) ?_
  refine lv_istore_n (lv' := [(3, .int x1), (2, .int x0), (0, .int x0), (1, .int x1)]) hx hb dX10_divisor_3 rfl hl (by decide) rfl (fun ls hl => ?_)
  obtain ⟨fu_4, hw⟩ := hw
  refine l_X10_divisor_4 (post := post) C0 hE hA (fun x2_3 hw H locs ls hP hD hS hl => ?_) fu_4 x0 x1 hw _ _ _ hP hD hS (lv_sub hl [1, 0] rfl)
  refine lv_iload_n hx hb dX10_divisor_21 rfl (lv_at hl 0 rfl) ?_
  exact W.iret (v := x2_3) hx hb hr (fun t ht hW => ⟨⟨x2_3, (), rfl, hw, by rw [ht]; exact hP, hD⟩, hS.F ht⟩) hS.2.2 dX10_divisor_22
-- QuandleColoringsModel.loadAlexander(II)I
abbrev rm_X10_loadAlexander : Room := { frames := 3, cells := 0, slots := 0, locals := 67 }
abbrev wd_X10_loadAlexander (G : qn_G) (h_this h_now h_history h_over h_order h_colors h_row h_three h_seen h_group : Nat) (f_edits : Int32) (f_total : Int32) (a_now : Nat → Int32) (a_history : Nat → Int32) : va_W := [(h_this, .inr (10, [.ref h_now, .ref h_history, .int f_edits, .ref h_over, .ref h_order, .ref h_colors, .int f_total, .ref h_row, .ref h_three, .ref h_seen, .ref h_group])), (h_now, .inl (G.2.1, 88, .inl a_now)), (h_history, .inl (G.2.1, 440, .inl a_history))]
def wp_X10_loadAlexander (post : Int32 → Int32 → (Nat → Int32) → (Nat → Int32) → Prop) (f_edits : Int32) (a_now : Nat → Int32) (a_history : Nat → Int32) (x1 : Int32) (x2 : Int32) : Prop := (wp_X10_in (fun (r_1 : Int32) => ((r_1 = 0 → (post (-1) f_edits a_now a_history)) ∧ (¬ r_1 = 0 → (wp_X10_in (fun (r_3 : Int32) => ((r_3 = 0 → (post (-1) f_edits a_now a_history)) ∧ (¬ r_3 = 0 → (wp_X10_divisor (fun (r_5 : Int32) => ((r_5 ≤ 1 → (wp_X10_alexander (fun (f_edits_7 : Int32) (a_now_8 : Nat → Int32) (a_history_9 : Nat → Int32) => (post x1 f_edits_7 a_now_8 a_history_9)) f_edits a_now a_history x1 x2)) ∧ (¬ r_5 ≤ 1 → (post (-1) f_edits a_now a_history)))) x1 x2)))) x2 0 (x1 - 1))))) x1 1 6)
set_option maxHeartbeats 4000000 in
set_option maxRecDepth 100000 in
theorem c_X10_loadAlexander {l : Launch} (G : qn_G) (sz : Nat) (h_this h_now h_history h_over h_order h_colors h_row h_three h_seen h_group : Nat) (f_edits : Int32) (f_total : Int32) (a_now : Nat → Int32) (a_history : Nat → Int32) (x1 : Int32) (x2 : Int32) {post : Int32 → Int32 → (Nat → Int32) → (Nat → Int32) → Prop} (hw : wp_X10_loadAlexander post f_edits a_now a_history x1 x2) : Met l yX10_loadAlexander wsX10_loadAlexander rm_X10_loadAlexander (qn_PC G [.ref h_this, .int x1, .int x2] sz (wd_X10_loadAlexander G h_this h_now h_history h_over h_order h_colors h_row h_three h_seen h_group f_edits f_total a_now a_history)) (qn_QI G (fun (r : Int32) (u : Int32 × (Nat → Int32) × (Nat → Int32)) => post r u.1 u.2.1 u.2.2) (fun u : Int32 × (Nat → Int32) × (Nat → Int32) => wd_X10_loadAlexander G h_this h_now h_history h_over h_order h_colors h_row h_three h_seen h_group (u.1) f_total (u.2.1) (u.2.2)) (va_A (wd_X10_loadAlexander G h_this h_now h_history h_over h_order h_colors h_row h_three h_seen h_group f_edits f_total a_now a_history) sz)) 0 0 (va_A (wd_X10_loadAlexander G h_this h_now h_history h_over h_order h_colors h_row h_three h_seen h_group f_edits f_total a_now a_history) sz) := by
  refine Met.ofW (cc := cX10_loadAlexander) (maxL := 3) (ret := (some .int)) (by decide) rfl ?_
  intro p e s m args below meth c s₁ B hml hv
  obtain ⟨rfl, hsz, hP, hE, hD0⟩ := hv
  have C0 : qn_C p m c cX10_loadAlexander 3 s _ wsX10_loadAlexander RX10 meth (some .int) := qn_C0 B hml
  obtain ⟨hx, hb, -, hown, hts, hr, hlocks⟩ := id C0
  subst hsz
  have hD := hD0.self (sz := s.heap.size)
  generalize hAe : va_A (wd_X10_loadAlexander G h_this h_now h_history h_over h_order h_colors h_row h_three h_seen h_group f_edits f_total a_now a_history) s.heap.size = A at hD ⊢
  have hA : ∀ q : Nat, s.heap.size ≤ q → A q := fun q h => by rw [← hAe]; exact Or.inr h
  clear hAe
  have hS : va_S A s.heap s.heap [] := va_S.rf
  have hl := lv_entry ([.ref h_this, .int x1, .int x2]) (n := 3) (Nat.le_of_ble_eq_true rfl)
  rw [lg_entry_eq]
  generalize (lg_sl ([.ref h_this, .int x1, .int x2]) ++ List.replicate (3 - (lg_sl ([.ref h_this, .int x1, .int x2])).length) Slot.unset).toArray = ls at hl ⊢
  have hl : lv_has ls 3 [(0, .ref h_this), (1, .int x1), (2, .int x2)] := hl
  have hP : va_P G.1 vwCl (wd_X10_loadAlexander G h_this h_now h_history h_over h_order h_colors h_row h_three h_seen h_group f_edits f_total a_now a_history) s.heap := hP
  refine lv_iload_n hx hb dX10_loadAlexander_0 rfl (lv_at hl 1 rfl) ?_
  refine lv_iconst (v := 1) hx hb dX10_loadAlexander_1 (by decide) ?_
  refine lv_bipush (v := 6) hx hb dX10_loadAlexander_2 (by decide) ?_
  have hC9 : ([] : List Nat).map (fun i => (wd_X10_loadAlexander G h_this h_now h_history h_over h_order h_colors h_row h_three h_seen h_group f_edits f_total a_now a_history)[i]?) = (wd_X10_in G).map some := rfl
  refine qn_callI (wd := (fun u : Unit => wd_X10_loadAlexander G h_this h_now h_history h_over h_order h_colors h_row h_three h_seen h_group f_edits f_total a_now a_history)) [] (va_runS (As := [.int x1, .int 1, .int 6]) (rest := []) ⟨hx, hb, hml, hown, hts⟩ (c_X10_in G _ x1 1 6 hw) (va_cwS 3 hts gX10_loadAlexander_X10_in rfl rfl rfl (by decide +kernel) ⟨Nat.le_of_ble_eq_true rfl, Nat.le_of_ble_eq_true rfl⟩) (qn_preS hE hP hD [] hC9 (by decide +kernel)) rfl rfl hl.1 rfl (lv_room (Nat.le_of_ble_eq_true rfl)) dX10_loadAlexander_4 ⟨Nat.le_of_ble_eq_true rfl, Nat.le_of_ble_eq_true rfl⟩) hP hD hS hA hC9 [none, none, none] (M := 3) rfl (by decide +kernel) (fun _ => rfl) (fun _ => rfl) (fun r_1 _ H locs hw hP hD hS => ?_)
  try dsimp only at hw
  have hP : va_P G.1 vwCl (wd_X10_loadAlexander G h_this h_now h_history h_over h_order h_colors h_row h_three h_seen h_group f_edits f_total a_now a_history) H := hP
  have hD : va_D A (wd_X10_loadAlexander G h_this h_now h_history h_over h_order h_colors h_row h_three h_seen h_group f_edits f_total a_now a_history) := hD
  refine lv_if_eq (tgt := 30) hx hb dX10_loadAlexander_7 (by decide) (fun c_2 => ?_) (fun c_2 => ?_)
  · have hw := hw.1 c_2
    refine lv_iconst (v := (-1)) hx hb dX10_loadAlexander_30 (by decide) ?_
    exact W.iret (v := (-1)) hx hb hr (fun t ht hW => ⟨⟨(-1), (f_edits, a_now, a_history), rfl, hw, by rw [ht]; exact hP, hD⟩, hS.F ht⟩) hS.2.2 dX10_loadAlexander_31
  · have hw := hw.2 c_2
    refine lv_iload_n hx hb dX10_loadAlexander_10 rfl (lv_at hl 2 rfl) ?_
    refine lv_iconst (v := 0) hx hb dX10_loadAlexander_11 (by decide) ?_
    refine lv_iload_n hx hb dX10_loadAlexander_12 rfl (lv_at hl 1 rfl) ?_
    refine lv_iconst (v := 1) hx hb dX10_loadAlexander_13 (by decide) ?_
    refine lv_isub hx hb dX10_loadAlexander_14 ?_
    have hC9 : ([] : List Nat).map (fun i => (wd_X10_loadAlexander G h_this h_now h_history h_over h_order h_colors h_row h_three h_seen h_group f_edits f_total a_now a_history)[i]?) = (wd_X10_in G).map some := rfl
    refine qn_callI (wd := (fun u : Unit => wd_X10_loadAlexander G h_this h_now h_history h_over h_order h_colors h_row h_three h_seen h_group f_edits f_total a_now a_history)) [] (va_runS (As := [.int x2, .int 0, .int (x1 - 1)]) (rest := []) ⟨hx, hb, hml, hown, hts⟩ (c_X10_in G _ x2 0 (x1 - 1) hw) (va_cwS 3 hts gX10_loadAlexander_X10_in rfl rfl rfl (by decide +kernel) ⟨Nat.le_of_ble_eq_true rfl, Nat.le_of_ble_eq_true rfl⟩) (qn_preS hE hP hD [] hC9 (by decide +kernel)) rfl rfl hl.1 rfl (lv_room (Nat.le_of_ble_eq_true rfl)) dX10_loadAlexander_15 ⟨Nat.le_of_ble_eq_true rfl, Nat.le_of_ble_eq_true rfl⟩) hP hD hS hA hC9 [none, none, none] (M := 3) rfl (by decide +kernel) (fun _ => rfl) (fun _ => rfl) (fun r_3 _ H locs hw hP hD hS => ?_)
    try dsimp only at hw
    have hP : va_P G.1 vwCl (wd_X10_loadAlexander G h_this h_now h_history h_over h_order h_colors h_row h_three h_seen h_group f_edits f_total a_now a_history) H := hP
    have hD : va_D A (wd_X10_loadAlexander G h_this h_now h_history h_over h_order h_colors h_row h_three h_seen h_group f_edits f_total a_now a_history) := hD
    refine lv_if_eq (tgt := 30) hx hb dX10_loadAlexander_18 (by decide) (fun c_4 => ?_) (fun c_4 => ?_)
    · have hw := hw.1 c_4
      refine lv_iconst (v := (-1)) hx hb dX10_loadAlexander_30 (by decide) ?_
      exact W.iret (v := (-1)) hx hb hr (fun t ht hW => ⟨⟨(-1), (f_edits, a_now, a_history), rfl, hw, by rw [ht]; exact hP, hD⟩, hS.F ht⟩) hS.2.2 dX10_loadAlexander_31
    · have hw := hw.2 c_4
      refine lv_iload_n hx hb dX10_loadAlexander_21 rfl (lv_at hl 1 rfl) ?_
      refine lv_iload_n hx hb dX10_loadAlexander_22 rfl (lv_at hl 2 rfl) ?_
      have hC9 : ([] : List Nat).map (fun i => (wd_X10_loadAlexander G h_this h_now h_history h_over h_order h_colors h_row h_three h_seen h_group f_edits f_total a_now a_history)[i]?) = (wd_X10_divisor G).map some := rfl
      refine qn_callI (wd := (fun u : Unit => wd_X10_loadAlexander G h_this h_now h_history h_over h_order h_colors h_row h_three h_seen h_group f_edits f_total a_now a_history)) [] (va_runS (As := [.int x1, .int x2]) (rest := []) ⟨hx, hb, hml, hown, hts⟩ (c_X10_divisor G _ x1 x2 hw) (va_cwS 2 hts gX10_loadAlexander_X10_divisor rfl rfl rfl (by decide +kernel) ⟨Nat.le_of_ble_eq_true rfl, Nat.le_of_ble_eq_true rfl⟩) (qn_preS hE hP hD [] hC9 (by decide +kernel)) rfl rfl hl.1 rfl (lv_room (Nat.le_of_ble_eq_true rfl)) dX10_loadAlexander_23 ⟨Nat.le_of_ble_eq_true rfl, Nat.le_of_ble_eq_true rfl⟩) hP hD hS hA hC9 [none, none, none] (M := 3) rfl (by decide +kernel) (fun _ => rfl) (fun _ => rfl) (fun r_5 _ H locs hw hP hD hS => ?_)
      try dsimp only at hw
      have hP : va_P G.1 vwCl (wd_X10_loadAlexander G h_this h_now h_history h_over h_order h_colors h_row h_three h_seen h_group f_edits f_total a_now a_history) H := hP
      have hD : va_D A (wd_X10_loadAlexander G h_this h_now h_history h_over h_order h_colors h_row h_three h_seen h_group f_edits f_total a_now a_history) := hD
      refine lv_iconst (v := 1) hx hb dX10_loadAlexander_26 (by decide) ?_
      refine lv_icmp_le (tgt := 32) hx hb dX10_loadAlexander_27 (by decide) (fun c_6 => ?_) (fun c_6 => ?_)
      · have hw := hw.1 c_6
        refine lv_aload_n hx hb dX10_loadAlexander_32 rfl (lv_at hl 0 rfl) ?_
        refine lv_iload_n hx hb dX10_loadAlexander_33 rfl (lv_at hl 1 rfl) ?_
        refine lv_iload_n hx hb dX10_loadAlexander_34 rfl (lv_at hl 2 rfl) ?_
        have hC9 : ([0, 1, 2]).map (fun i => (wd_X10_loadAlexander G h_this h_now h_history h_over h_order h_colors h_row h_three h_seen h_group f_edits f_total a_now a_history)[i]?) = (wd_X10_alexander G h_this h_now h_history h_over h_order h_colors h_row h_three h_seen h_group f_edits f_total a_now a_history).map some := rfl
        refine qn_callV (wd := (fun u : Int32 × (Nat → Int32) × (Nat → Int32) => wd_X10_loadAlexander G h_this h_now h_history h_over h_order h_colors h_row h_three h_seen h_group (u.1) f_total (u.2.1) (u.2.2))) [0, 1, 2] (va_runV (As := [.int x1, .int x2]) (rest := []) ⟨hx, hb, hml, hown, hts⟩ (c_X10_alexander G _ h_this h_now h_history h_over h_order h_colors h_row h_three h_seen h_group f_edits f_total a_now a_history x1 x2 hw) (cwV 2 hts gX10_loadAlexander_X10_alexander rfl rfl rfl (by decide +kernel) ⟨Nat.le_of_ble_eq_true rfl, Nat.le_of_ble_eq_true rfl⟩) (qn_preV hE hP hD [0, 1, 2] hC9 (by decide +kernel) (ci := 10) rfl rfl) rfl rfl hl.1 rfl (lv_room (Nat.le_of_ble_eq_true rfl)) dX10_loadAlexander_35 ⟨Nat.le_of_ble_eq_true rfl, Nat.le_of_ble_eq_true rfl⟩) hP hD hS hA hC9 [some 0, some 1, some 2] (M := 3) rfl (by decide +kernel) (fun _ => rfl) (fun _ => rfl) (fun u_10 H locs hw hP hD hS => ?_)
        obtain ⟨f_edits_7, a_now_8, a_history_9⟩ := u_10
        try dsimp only at hw
        have hP : va_P G.1 vwCl (wd_X10_loadAlexander G h_this h_now h_history h_over h_order h_colors h_row h_three h_seen h_group f_edits_7 f_total a_now_8 a_history_9) H := hP
        have hD : va_D A (wd_X10_loadAlexander G h_this h_now h_history h_over h_order h_colors h_row h_three h_seen h_group f_edits_7 f_total a_now_8 a_history_9) := hD
        refine lv_iload_n hx hb dX10_loadAlexander_38 rfl (lv_at hl 1 rfl) ?_
        exact W.iret (v := x1) hx hb hr (fun t ht hW => ⟨⟨x1, (f_edits_7, a_now_8, a_history_9), rfl, hw, by rw [ht]; exact hP, hD⟩, hS.F ht⟩) hS.2.2 dX10_loadAlexander_39
      · have hw := hw.2 c_6
        refine lv_iconst (v := (-1)) hx hb dX10_loadAlexander_30 (by decide) ?_
        exact W.iret (v := (-1)) hx hb hr (fun t ht hW => ⟨⟨(-1), (f_edits, a_now, a_history), rfl, hw, by rw [ht]; exact hP, hD⟩, hS.F ht⟩) hS.2.2 dX10_loadAlexander_31
-- QuandleColoringsModel.unrank(II)V
abbrev rm_X10_unrank : Room := { frames := 0, cells := 0, slots := 0, locals := 0 }
abbrev wd_X10_unrank (G : qn_G) (h_this h_now h_history h_over h_order h_colors h_row h_three h_seen h_group : Nat) (f_edits : Int32) (f_total : Int32) (a_order : Nat → Int32) : va_W := [(h_this, .inr (10, [.ref h_now, .ref h_history, .int f_edits, .ref h_over, .ref h_order, .ref h_colors, .int f_total, .ref h_row, .ref h_three, .ref h_seen, .ref h_group])), (h_order, .inl (G.2.1, 6, .inl a_order))]
theorem in_X10_unrank_X10 : ∀ w ∈ u_ws RX10 TX10 11, w ∈ wsX10_unrank := by decide +kernel
theorem lk_X10_unrank_19 : Cond.fieldLink RX10 19 "QuandleColoringsModel" "order" "[I" ∈ wsX10_unrank := by decide +kernel
def wp_X10_unrank_L15 (KL15 : Int32 → Prop) (x1 : Int32) : Nat → Int32 → Int32 → Prop
  | 0 => fun _ _ => False
  | fu + 1 => fun x5 x6 => ((x1 ≤ x6 → (KL15 x5)) ∧ (¬ x1 ≤ x6 → (∀ x5_3 : Int32, x5_3 = x5 * x6 → (∀ x6_4 : Int32, x6_4 = x6 + 1 → ((wp_X10_unrank_L15 KL15 x1 fu) x5_3 x6_4)))))
def wp_X10_unrank_J98 (BL84 : Int32 → Int32 → Prop) (x3 : Int32) (x7 : Int32) (x8 : Int32) : Prop := (∀ x7_11 : Int32, x7_11 = x7 - ((x3 >>> (x8 &&& 31)) &&& 1) → (∀ x8_12 : Int32, x8_12 = x8 + 1 → (BL84 x7_11 x8_12)))
def wp_X10_unrank_L84 (KL84 : Int32 → Prop) (x3 : Int32) : Nat → Int32 → Int32 → Prop
  | 0 => fun _ _ => False
  | fu + 1 => fun x7 x8 => ((((x3 >>> (x8 &&& 31)) &&& 1) = 0 → (wp_X10_unrank_J98 (wp_X10_unrank_L84 KL84 x3 fu) x3 x7 x8)) ∧ (¬ ((x3 >>> (x8 &&& 31)) &&& 1) = 0 → ((x7 ≤ 0 → (KL84 x8)) ∧ (¬ x7 ≤ 0 → (wp_X10_unrank_J98 (wp_X10_unrank_L84 KL84 x3 fu) x3 x7 x8)))))
def wp_X10_unrank_L37 (KL37 : (Nat → Int32) → Prop) (x1 : Int32) : Nat → Int32 → Int32 → Int32 → Int32 → (Nat → Int32) → Prop
  | 0 => fun _ _ _ _ _ => False
  | fu + 1 => fun x3 x4 x5 x6 a_order => ((x1 ≤ x6 → (KL37 a_order)) ∧ (¬ x1 ≤ x6 → (¬ x5 = 0 ∧ (∀ z_7 : Int32, z_7 = x4 / x5 → (¬ x5 = 0 ∧ (∀ z_8 : Int32, z_8 = x4 - x4 / x5 * x5 → ((((x1 - 1) - x6) ≤ 0 → (∃ fu_22 : Nat, wp_X10_unrank_L84 (fun (x8_18 : Int32) => (∀ x3_19 : Int32, x3_19 = x3 &&& ((1 <<< (x8_18 &&& 31)) ^^^ (-1)) → (vp_in x6 6 ∧ (∀ a_order_20 : Nat → Int32, a_order_20 = upd a_order x6.toNatClampNeg x8_18 → (∀ x6_21 : Int32, x6_21 = x6 + 1 → ((wp_X10_unrank_L37 KL37 x1 fu) x3_19 z_8 1 x6_21 a_order_20)))))) x3 fu_22 z_7 0)) ∧ (¬ ((x1 - 1) - x6) ≤ 0 → (¬ (x1 - 1) - x6 = 0 ∧ (∀ z_23 : Int32, z_23 = x5 / ((x1 - 1) - x6) → (∃ fu_28 : Nat, wp_X10_unrank_L84 (fun (x8_24 : Int32) => (∀ x3_25 : Int32, x3_25 = x3 &&& ((1 <<< (x8_24 &&& 31)) ^^^ (-1)) → (vp_in x6 6 ∧ (∀ a_order_26 : Nat → Int32, a_order_26 = upd a_order x6.toNatClampNeg x8_24 → (∀ x6_27 : Int32, x6_27 = x6 + 1 → ((wp_X10_unrank_L37 KL37 x1 fu) x3_25 z_8 z_23 x6_27 a_order_26)))))) x3 fu_28 z_7 0)))))))))))
def wp_X10_unrank (post : (Nat → Int32) → Prop) (a_order : Nat → Int32) (x1 : Int32) (x2 : Int32) : Prop := (∀ x3_1 : Int32, x3_1 = (1 <<< (x1 &&& 31)) - 1 → (∃ fu_31 : Nat, wp_X10_unrank_L15 (fun (x5_5 : Int32) => (∃ fu_30 : Nat, wp_X10_unrank_L37 (fun (a_order_29 : Nat → Int32) => (post a_order_29)) x1 fu_30 x3_1 x2 x5_5 0 a_order)) x1 fu_31 1 2))
set_option maxHeartbeats 4000000 in
set_option maxRecDepth 100000 in
theorem l_X10_unrank_15 {p : Program} {l : Launch} {e : Env} {s : State} {m : MethodId} {args : Array Value} {below : List Frame} {meth : Method} {c : Code} {G : qn_G} {A : Nat → Prop} {h_this h_now h_history h_over h_order h_colors h_row h_three h_seen h_group : Nat} {f_edits : Int32} {f_total : Int32} {a_order : Nat → Int32} {x1 : Int32} {x3 : Int32} {x4 : Int32} {post : (Nat → Int32) → Prop} {KL15 : Int32 → Prop} (C0 : qn_C p m c cX10_unrank 9 s args wsX10_unrank RX10 meth none) (hE : qn_EV G s) (hA : ∀ q, s.heap.size ≤ q → A q) (hKc : ∀ (x5 : Int32), KL15 x5 → ∀ (H : Heap) (locs : List Loc) (ls : Array Slot), va_P G.1 vwCl (wd_X10_unrank G h_this h_now h_history h_over h_order h_colors h_row h_three h_seen h_group f_edits f_total a_order) H → va_D A (wd_X10_unrank G h_this h_now h_history h_over h_order h_colors h_row h_three h_seen h_group f_edits f_total a_order) → va_S A s.heap H locs → lv_has ls 9 [(0, .ref h_this), (1, .int x1), (3, .int x3), (4, .int x4), (5, .int x5)] → W p l e (headSpec wsX10_unrank rm_X10_unrank).room s m args below meth c H locs 0 0 (MQ below (qn_QV G (fun (u : (Nat → Int32)) => post u) (fun u : (Nat → Int32) => wd_X10_unrank G h_this h_now h_history h_over h_order h_colors h_row h_three h_seen h_group f_edits f_total u) A) args s 0 0 A) (F0 m 34 ls [])) :
    ∀ (fu : Nat) (x5 : Int32) (x6 : Int32), wp_X10_unrank_L15 KL15 x1 fu x5 x6 → ∀ (H : Heap) (locs : List Loc) (ls : Array Slot), va_P G.1 vwCl (wd_X10_unrank G h_this h_now h_history h_over h_order h_colors h_row h_three h_seen h_group f_edits f_total a_order) H → va_D A (wd_X10_unrank G h_this h_now h_history h_over h_order h_colors h_row h_three h_seen h_group f_edits f_total a_order) → va_S A s.heap H locs → lv_has ls 9 [(0, .ref h_this), (1, .int x1), (3, .int x3), (4, .int x4), (5, .int x5), (6, .int x6)] → W p l e (headSpec wsX10_unrank rm_X10_unrank).room s m args below meth c H locs 0 0 (MQ below (qn_QV G (fun (u : (Nat → Int32)) => post u) (fun u : (Nat → Int32) => wd_X10_unrank G h_this h_now h_history h_over h_order h_colors h_row h_three h_seen h_group f_edits f_total u) A) args s 0 0 A) (F0 m 15 ls []) := by
  obtain ⟨hx, hb, hml, hown, hts, hr, hlocks⟩ := id C0
  intro fu
  induction fu with
  | zero => intro x5 x6 hw; exact hw.elim
  | succ fu ih =>
    intro x5 x6 hw H locs ls hP hD hS hl
    refine lv_iload hx hb dX10_unrank_15 (lv_at hl 5 rfl) ?_
    refine lv_iload_n hx hb dX10_unrank_17 rfl (lv_at hl 1 rfl) ?_
    refine lv_icmp_ge (tgt := 34) hx hb dX10_unrank_18 (by decide) (fun c_2 => ?_) (fun c_2 => ?_)
    · have hw := hw.1 c_2
      exact hKc x5 hw _ _ _ hP hD hS (lv_sub hl [0, 1, 2, 3, 4] rfl)
    · have hw := hw.2 c_2
      refine lv_iload hx hb dX10_unrank_21 (lv_at hl 4 rfl) ?_
      refine lv_iload hx hb dX10_unrank_23 (lv_at hl 5 rfl) ?_
      refine lv_imul hx hb dX10_unrank_25 ?_
      refine lv_topi (fun x5_3 ex5_3 => ?_)
      have hw := hw x5_3 ex5_3
      refine lv_istore (lv' := [(5, .int x5_3), (0, .ref h_this), (1, .int x1), (3, .int x3), (4, .int x4), (6, .int x6)]) hx hb dX10_unrank_26 hl (by decide) rfl (fun ls hl => ?_)
      obtain ⟨x6_4, ex6_4⟩ : ∃ y : Int32, y = x6 + 1 := ⟨_, rfl⟩
      have hw := hw x6_4 ex6_4
      refine lv_iinc (v := x6_4) (lv' := [(6, .int x6_4), (5, .int x5_3), (0, .ref h_this), (1, .int x1), (3, .int x3), (4, .int x4)]) hx hb dX10_unrank_28 hl (k := 5) rfl (by rw [ex6_4]; rfl) (by decide) rfl (fun ls hl => ?_)
      refine lv_goto (tgt := 15) hx hb dX10_unrank_31 (by decide) ?_
      exact ih x5_3 x6_4 hw _ _ _ hP hD hS (lv_sub hl [2, 3, 4, 5, 1, 0] rfl)
set_option maxHeartbeats 4000000 in
set_option maxRecDepth 100000 in
theorem l_X10_unrank_84 {p : Program} {l : Launch} {e : Env} {s : State} {m : MethodId} {args : Array Value} {below : List Frame} {meth : Method} {c : Code} {G : qn_G} {A : Nat → Prop} {h_this h_now h_history h_over h_order h_colors h_row h_three h_seen h_group : Nat} {f_edits : Int32} {f_total : Int32} {a_order : Nat → Int32} {x1 : Int32} {x3 : Int32} {x4 : Int32} {x5 : Int32} {x6 : Int32} {post : (Nat → Int32) → Prop} {KL84 : Int32 → Prop} (C0 : qn_C p m c cX10_unrank 9 s args wsX10_unrank RX10 meth none) (hE : qn_EV G s) (hA : ∀ q, s.heap.size ≤ q → A q) (hKc : ∀ (x8 : Int32), KL84 x8 → ∀ (H : Heap) (locs : List Loc) (ls : Array Slot), va_P G.1 vwCl (wd_X10_unrank G h_this h_now h_history h_over h_order h_colors h_row h_three h_seen h_group f_edits f_total a_order) H → va_D A (wd_X10_unrank G h_this h_now h_history h_over h_order h_colors h_row h_three h_seen h_group f_edits f_total a_order) → va_S A s.heap H locs → lv_has ls 9 [(0, .ref h_this), (1, .int x1), (3, .int x3), (4, .int x4), (5, .int x5), (6, .int x6), (8, .int x8)] → W p l e (headSpec wsX10_unrank rm_X10_unrank).room s m args below meth c H locs 0 0 (MQ below (qn_QV G (fun (u : (Nat → Int32)) => post u) (fun u : (Nat → Int32) => wd_X10_unrank G h_this h_now h_history h_over h_order h_colors h_row h_three h_seen h_group f_edits f_total u) A) args s 0 0 A) (F0 m 115 ls [])) :
    ∀ (fu : Nat) (x7 : Int32) (x8 : Int32), wp_X10_unrank_L84 KL84 x3 fu x7 x8 → ∀ (H : Heap) (locs : List Loc) (ls : Array Slot), va_P G.1 vwCl (wd_X10_unrank G h_this h_now h_history h_over h_order h_colors h_row h_three h_seen h_group f_edits f_total a_order) H → va_D A (wd_X10_unrank G h_this h_now h_history h_over h_order h_colors h_row h_three h_seen h_group f_edits f_total a_order) → va_S A s.heap H locs → lv_has ls 9 [(0, .ref h_this), (1, .int x1), (3, .int x3), (4, .int x4), (5, .int x5), (6, .int x6), (7, .int x7), (8, .int x8)] → W p l e (headSpec wsX10_unrank rm_X10_unrank).room s m args below meth c H locs 0 0 (MQ below (qn_QV G (fun (u : (Nat → Int32)) => post u) (fun u : (Nat → Int32) => wd_X10_unrank G h_this h_now h_history h_over h_order h_colors h_row h_three h_seen h_group f_edits f_total u) A) args s 0 0 A) (F0 m 84 ls []) := by
  obtain ⟨hx, hb, hml, hown, hts, hr, hlocks⟩ := id C0
  intro fu
  induction fu with
  | zero => intro x7 x8 hw; exact hw.elim
  | succ fu ih =>
    intro x7 x8 hw H locs ls hP hD hS hl
    refine lv_iload_n hx hb dX10_unrank_84 rfl (lv_at hl 2 rfl) ?_
    refine lv_iload hx hb dX10_unrank_85 (lv_at hl 7 rfl) ?_
    refine lv_ishr hx hb dX10_unrank_87 ?_
    refine lv_iconst (v := 1) hx hb dX10_unrank_88 (by decide) ?_
    refine lv_iand hx hb dX10_unrank_89 ?_
    refine lv_if_eq (tgt := 98) hx hb dX10_unrank_90 (by decide) (fun c_10 => ?_) (fun c_10 => ?_)
    · have hw := hw.1 c_10
      refine lv_iload hx hb dX10_unrank_98 (lv_at hl 6 rfl) ?_
      refine lv_iload_n hx hb dX10_unrank_100 rfl (lv_at hl 2 rfl) ?_
      refine lv_iload hx hb dX10_unrank_101 (lv_at hl 7 rfl) ?_
      refine lv_ishr hx hb dX10_unrank_103 ?_
      refine lv_iconst (v := 1) hx hb dX10_unrank_104 (by decide) ?_
      refine lv_iand hx hb dX10_unrank_105 ?_
      refine lv_isub hx hb dX10_unrank_106 ?_
      refine lv_topi (fun x7_13 ex7_13 => ?_)
      have hw := hw x7_13 ex7_13
      refine lv_istore (lv' := [(7, .int x7_13), (0, .ref h_this), (1, .int x1), (3, .int x3), (4, .int x4), (5, .int x5), (6, .int x6), (8, .int x8)]) hx hb dX10_unrank_107 hl (by decide) rfl (fun ls hl => ?_)
      obtain ⟨x8_14, ex8_14⟩ : ∃ y : Int32, y = x8 + 1 := ⟨_, rfl⟩
      have hw := hw x8_14 ex8_14
      refine lv_iinc (v := x8_14) (lv' := [(8, .int x8_14), (7, .int x7_13), (0, .ref h_this), (1, .int x1), (3, .int x3), (4, .int x4), (5, .int x5), (6, .int x6)]) hx hb dX10_unrank_109 hl (k := 7) rfl (by rw [ex8_14]; rfl) (by decide) rfl (fun ls hl => ?_)
      refine lv_goto (tgt := 84) hx hb dX10_unrank_112 (by decide) ?_
      exact ih x7_13 x8_14 hw _ _ _ hP hD hS (lv_sub hl [2, 3, 4, 5, 6, 7, 1, 0] rfl)
    · have hw := hw.2 c_10
      refine lv_iload hx hb dX10_unrank_93 (lv_at hl 6 rfl) ?_
      refine lv_if_le (tgt := 115) hx hb dX10_unrank_95 (by decide) (fun c_15 => ?_) (fun c_15 => ?_)
      · have hw := hw.1 c_15
        exact hKc x8 hw _ _ _ hP hD hS (lv_sub hl [0, 1, 2, 3, 4, 5, 7] rfl)
      · have hw := hw.2 c_15
        refine lv_iload hx hb dX10_unrank_98 (lv_at hl 6 rfl) ?_
        refine lv_iload_n hx hb dX10_unrank_100 rfl (lv_at hl 2 rfl) ?_
        refine lv_iload hx hb dX10_unrank_101 (lv_at hl 7 rfl) ?_
        refine lv_ishr hx hb dX10_unrank_103 ?_
        refine lv_iconst (v := 1) hx hb dX10_unrank_104 (by decide) ?_
        refine lv_iand hx hb dX10_unrank_105 ?_
        refine lv_isub hx hb dX10_unrank_106 ?_
        refine lv_topi (fun x7_16 ex7_16 => ?_)
        have hw := hw x7_16 ex7_16
        refine lv_istore (lv' := [(7, .int x7_16), (0, .ref h_this), (1, .int x1), (3, .int x3), (4, .int x4), (5, .int x5), (6, .int x6), (8, .int x8)]) hx hb dX10_unrank_107 hl (by decide) rfl (fun ls hl => ?_)
        obtain ⟨x8_17, ex8_17⟩ : ∃ y : Int32, y = x8 + 1 := ⟨_, rfl⟩
        have hw := hw x8_17 ex8_17
        refine lv_iinc (v := x8_17) (lv' := [(8, .int x8_17), (7, .int x7_16), (0, .ref h_this), (1, .int x1), (3, .int x3), (4, .int x4), (5, .int x5), (6, .int x6)]) hx hb dX10_unrank_109 hl (k := 7) rfl (by rw [ex8_17]; rfl) (by decide) rfl (fun ls hl => ?_)
        refine lv_goto (tgt := 84) hx hb dX10_unrank_112 (by decide) ?_
        exact ih x7_16 x8_17 hw _ _ _ hP hD hS (lv_sub hl [2, 3, 4, 5, 6, 7, 1, 0] rfl)
set_option maxHeartbeats 4000000 in
set_option maxRecDepth 100000 in
theorem l_X10_unrank_37 {p : Program} {l : Launch} {e : Env} {s : State} {m : MethodId} {args : Array Value} {below : List Frame} {meth : Method} {c : Code} {G : qn_G} {A : Nat → Prop} {h_this h_now h_history h_over h_order h_colors h_row h_three h_seen h_group : Nat} {f_edits : Int32} {f_total : Int32} {x1 : Int32} {post : (Nat → Int32) → Prop} {KL37 : (Nat → Int32) → Prop} (C0 : qn_C p m c cX10_unrank 9 s args wsX10_unrank RX10 meth none) (hE : qn_EV G s) (hA : ∀ q, s.heap.size ≤ q → A q) (hKc : ∀ (a_order : Nat → Int32), KL37 a_order → ∀ (H : Heap) (locs : List Loc) (ls : Array Slot), va_P G.1 vwCl (wd_X10_unrank G h_this h_now h_history h_over h_order h_colors h_row h_three h_seen h_group f_edits f_total a_order) H → va_D A (wd_X10_unrank G h_this h_now h_history h_over h_order h_colors h_row h_three h_seen h_group f_edits f_total a_order) → va_S A s.heap H locs → lv_has ls 9 [] → W p l e (headSpec wsX10_unrank rm_X10_unrank).room s m args below meth c H locs 0 0 (MQ below (qn_QV G (fun (u : (Nat → Int32)) => post u) (fun u : (Nat → Int32) => wd_X10_unrank G h_this h_now h_history h_over h_order h_colors h_row h_three h_seen h_group f_edits f_total u) A) args s 0 0 A) (F0 m 139 ls [])) :
    ∀ (fu : Nat) (x3 : Int32) (x4 : Int32) (x5 : Int32) (x6 : Int32) (a_order : Nat → Int32), wp_X10_unrank_L37 KL37 x1 fu x3 x4 x5 x6 a_order → ∀ (H : Heap) (locs : List Loc) (ls : Array Slot), va_P G.1 vwCl (wd_X10_unrank G h_this h_now h_history h_over h_order h_colors h_row h_three h_seen h_group f_edits f_total a_order) H → va_D A (wd_X10_unrank G h_this h_now h_history h_over h_order h_colors h_row h_three h_seen h_group f_edits f_total a_order) → va_S A s.heap H locs → lv_has ls 9 [(0, .ref h_this), (1, .int x1), (3, .int x3), (4, .int x4), (5, .int x5), (6, .int x6)] → W p l e (headSpec wsX10_unrank rm_X10_unrank).room s m args below meth c H locs 0 0 (MQ below (qn_QV G (fun (u : (Nat → Int32)) => post u) (fun u : (Nat → Int32) => wd_X10_unrank G h_this h_now h_history h_over h_order h_colors h_row h_three h_seen h_group f_edits f_total u) A) args s 0 0 A) (F0 m 37 ls []) := by
  obtain ⟨hx, hb, hml, hown, hts, hr, hlocks⟩ := id C0
  intro fu
  induction fu with
  | zero => intro x3 x4 x5 x6 a_order hw; exact hw.elim
  | succ fu ih =>
    intro x3 x4 x5 x6 a_order hw H locs ls hP hD hS hl
    refine lv_iload hx hb dX10_unrank_37 (lv_at hl 5 rfl) ?_
    refine lv_iload_n hx hb dX10_unrank_39 rfl (lv_at hl 1 rfl) ?_
    refine lv_icmp_ge (tgt := 139) hx hb dX10_unrank_40 (by decide) (fun c_6 => ?_) (fun c_6 => ?_)
    · have hw := hw.1 c_6
      exact hKc a_order hw _ _ _ hP hD hS (lv_sub hl [] rfl)
    · have hw := hw.2 c_6
      refine lv_iload hx hb dX10_unrank_43 (lv_at hl 3 rfl) ?_
      refine lv_iload hx hb dX10_unrank_45 (lv_at hl 4 rfl) ?_
      have hne := hw.1
      have hw := hw.2
      refine lv_idiv hx hb dX10_unrank_47 hne ?_
      refine lv_topi (fun z_7 ez_7 => ?_)
      have hw := hw z_7 ez_7
      refine lv_istore (lv' := [(7, .int z_7), (0, .ref h_this), (1, .int x1), (3, .int x3), (4, .int x4), (5, .int x5), (6, .int x6)]) hx hb dX10_unrank_48 hl (by decide) rfl (fun ls hl => ?_)
      refine lv_iload hx hb dX10_unrank_50 (lv_at hl 4 rfl) ?_
      refine lv_iload hx hb dX10_unrank_52 (lv_at hl 5 rfl) ?_
      have hne := hw.1
      have hw := hw.2
      refine lv_irem hx hb dX10_unrank_54 hne ?_
      refine lv_topi (fun z_8 ez_8 => ?_)
      have hw := hw z_8 ez_8
      refine lv_istore (lv' := [(4, .int z_8), (7, .int z_7), (0, .ref h_this), (1, .int x1), (3, .int x3), (5, .int x5), (6, .int x6)]) hx hb dX10_unrank_55 hl (by decide) rfl (fun ls hl => ?_)
      refine lv_iload_n hx hb dX10_unrank_57 rfl (lv_at hl 3 rfl) ?_
      refine lv_iconst (v := 1) hx hb dX10_unrank_58 (by decide) ?_
      refine lv_isub hx hb dX10_unrank_59 ?_
      refine lv_iload hx hb dX10_unrank_60 (lv_at hl 6 rfl) ?_
      refine lv_isub hx hb dX10_unrank_62 ?_
      refine lv_if_le (tgt := 78) hx hb dX10_unrank_63 (by decide) (fun c_9 => ?_) (fun c_9 => ?_)
      · have hw := hw.1 c_9
        refine lv_iconst (v := 1) hx hb dX10_unrank_78 (by decide) ?_
        refine lv_istore (lv' := [(5, .int 1), (4, .int z_8), (7, .int z_7), (0, .ref h_this), (1, .int x1), (3, .int x3), (6, .int x6)]) hx hb dX10_unrank_79 hl (by decide) rfl (fun ls hl => ?_)
        refine lv_iconst (v := 0) hx hb dX10_unrank_81 (by decide) ?_
        refine lv_istore (lv' := [(8, .int 0), (5, .int 1), (4, .int z_8), (7, .int z_7), (0, .ref h_this), (1, .int x1), (3, .int x3), (6, .int x6)]) hx hb dX10_unrank_82 hl (by decide) rfl (fun ls hl => ?_)
        obtain ⟨fu_22, hw⟩ := hw
        refine l_X10_unrank_84 (post := post) C0 hE hA (fun x8_18 hw H locs ls hP hD hS hl => ?_) fu_22 z_7 0 hw _ _ _ hP hD hS (lv_sub hl [4, 5, 6, 2, 1, 7, 3, 0] rfl)
        refine lv_iload_n hx hb dX10_unrank_115 rfl (lv_at hl 2 rfl) ?_
        refine lv_iconst (v := 1) hx hb dX10_unrank_116 (by decide) ?_
        refine lv_iload hx hb dX10_unrank_117 (lv_at hl 6 rfl) ?_
        refine lv_ishl hx hb dX10_unrank_119 ?_
        refine lv_iconst (v := (-1)) hx hb dX10_unrank_120 (by decide) ?_
        refine lv_ixor hx hb dX10_unrank_121 ?_
        refine lv_iand hx hb dX10_unrank_122 ?_
        refine lv_topi (fun x3_19 ex3_19 => ?_)
        have hw := hw x3_19 ex3_19
        refine lv_istore_n (lv' := [(3, .int x3_19), (0, .ref h_this), (1, .int x1), (4, .int z_8), (5, .int 1), (6, .int x6), (8, .int x8_18)]) hx hb dX10_unrank_123 rfl hl (by decide) rfl (fun ls hl => ?_)
        refine lv_aload_n hx hb dX10_unrank_124 rfl (lv_at hl 1 rfl) ?_
        refine va_get (D := G.1) (ci := 10) (v := .ref h_order) (C := RX10) (T := TX10) (N := 11) hx hb hts in_X10_unrank_X10 hown hE.1 hP 0 rfl rfl 4 (by decide) (hts (.fieldLink RX10 19 "QuandleColoringsModel" "order" "[I") lk_X10_unrank_19) (fun _ h9 => h9) rfl dX10_unrank_125 ?_
        refine lv_iload hx hb dX10_unrank_128 (lv_at hl 5 rfl) ?_
        refine lv_iload hx hb dX10_unrank_130 (lv_at hl 6 rfl) ?_
        have hin := hw.1
        have hw := hw.2
        obtain ⟨a_order_20, ea_order_20⟩ : ∃ y : Nat → Int32, y = upd a_order x6.toNatClampNeg x8_18 := ⟨_, rfl⟩
        have hw := hw a_order_20 ea_order_20
        refine va_iast hx hb hE.1 hP hD hS 1 0 rfl rfl hin dX10_unrank_132 (fun H locs hP hD hS => ?_)
        rw [← ea_order_20] at hP hD
        have hP : va_P G.1 vwCl (wd_X10_unrank G h_this h_now h_history h_over h_order h_colors h_row h_three h_seen h_group f_edits f_total a_order_20) H := hP
        have hD : va_D A (wd_X10_unrank G h_this h_now h_history h_over h_order h_colors h_row h_three h_seen h_group f_edits f_total a_order_20) := hD
        obtain ⟨x6_21, ex6_21⟩ : ∃ y : Int32, y = x6 + 1 := ⟨_, rfl⟩
        have hw := hw x6_21 ex6_21
        refine lv_iinc (v := x6_21) (lv' := [(6, .int x6_21), (3, .int x3_19), (0, .ref h_this), (1, .int x1), (4, .int z_8), (5, .int 1), (8, .int x8_18)]) hx hb dX10_unrank_133 hl (k := 5) rfl (by rw [ex6_21]; rfl) (by decide) rfl (fun ls hl => ?_)
        refine lv_goto (tgt := 37) hx hb dX10_unrank_136 (by decide) ?_
        exact ih x3_19 z_8 1 x6_21 a_order_20 hw _ _ _ hP hD hS (lv_sub hl [2, 3, 1, 4, 5, 0] rfl)
      · have hw := hw.2 c_9
        refine lv_iload hx hb dX10_unrank_66 (lv_at hl 5 rfl) ?_
        refine lv_iload_n hx hb dX10_unrank_68 rfl (lv_at hl 3 rfl) ?_
        refine lv_iconst (v := 1) hx hb dX10_unrank_69 (by decide) ?_
        refine lv_isub hx hb dX10_unrank_70 ?_
        refine lv_iload hx hb dX10_unrank_71 (lv_at hl 6 rfl) ?_
        refine lv_isub hx hb dX10_unrank_73 ?_
        have hne := hw.1
        have hw := hw.2
        refine lv_idiv hx hb dX10_unrank_74 hne ?_
        refine lv_topi (fun z_23 ez_23 => ?_)
        have hw := hw z_23 ez_23
        refine lv_goto (tgt := 79) hx hb dX10_unrank_75 (by decide) ?_
        refine lv_istore (lv' := [(5, .int z_23), (4, .int z_8), (7, .int z_7), (0, .ref h_this), (1, .int x1), (3, .int x3), (6, .int x6)]) hx hb dX10_unrank_79 hl (by decide) rfl (fun ls hl => ?_)
        refine lv_iconst (v := 0) hx hb dX10_unrank_81 (by decide) ?_
        refine lv_istore (lv' := [(8, .int 0), (5, .int z_23), (4, .int z_8), (7, .int z_7), (0, .ref h_this), (1, .int x1), (3, .int x3), (6, .int x6)]) hx hb dX10_unrank_82 hl (by decide) rfl (fun ls hl => ?_)
        obtain ⟨fu_28, hw⟩ := hw
        refine l_X10_unrank_84 (post := post) C0 hE hA (fun x8_24 hw H locs ls hP hD hS hl => ?_) fu_28 z_7 0 hw _ _ _ hP hD hS (lv_sub hl [4, 5, 6, 2, 1, 7, 3, 0] rfl)
        refine lv_iload_n hx hb dX10_unrank_115 rfl (lv_at hl 2 rfl) ?_
        refine lv_iconst (v := 1) hx hb dX10_unrank_116 (by decide) ?_
        refine lv_iload hx hb dX10_unrank_117 (lv_at hl 6 rfl) ?_
        refine lv_ishl hx hb dX10_unrank_119 ?_
        refine lv_iconst (v := (-1)) hx hb dX10_unrank_120 (by decide) ?_
        refine lv_ixor hx hb dX10_unrank_121 ?_
        refine lv_iand hx hb dX10_unrank_122 ?_
        refine lv_topi (fun x3_25 ex3_25 => ?_)
        have hw := hw x3_25 ex3_25
        refine lv_istore_n (lv' := [(3, .int x3_25), (0, .ref h_this), (1, .int x1), (4, .int z_8), (5, .int z_23), (6, .int x6), (8, .int x8_24)]) hx hb dX10_unrank_123 rfl hl (by decide) rfl (fun ls hl => ?_)
        refine lv_aload_n hx hb dX10_unrank_124 rfl (lv_at hl 1 rfl) ?_
        refine va_get (D := G.1) (ci := 10) (v := .ref h_order) (C := RX10) (T := TX10) (N := 11) hx hb hts in_X10_unrank_X10 hown hE.1 hP 0 rfl rfl 4 (by decide) (hts (.fieldLink RX10 19 "QuandleColoringsModel" "order" "[I") lk_X10_unrank_19) (fun _ h9 => h9) rfl dX10_unrank_125 ?_
        refine lv_iload hx hb dX10_unrank_128 (lv_at hl 5 rfl) ?_
        refine lv_iload hx hb dX10_unrank_130 (lv_at hl 6 rfl) ?_
        have hin := hw.1
        have hw := hw.2
        obtain ⟨a_order_26, ea_order_26⟩ : ∃ y : Nat → Int32, y = upd a_order x6.toNatClampNeg x8_24 := ⟨_, rfl⟩
        have hw := hw a_order_26 ea_order_26
        refine va_iast hx hb hE.1 hP hD hS 1 0 rfl rfl hin dX10_unrank_132 (fun H locs hP hD hS => ?_)
        rw [← ea_order_26] at hP hD
        have hP : va_P G.1 vwCl (wd_X10_unrank G h_this h_now h_history h_over h_order h_colors h_row h_three h_seen h_group f_edits f_total a_order_26) H := hP
        have hD : va_D A (wd_X10_unrank G h_this h_now h_history h_over h_order h_colors h_row h_three h_seen h_group f_edits f_total a_order_26) := hD
        obtain ⟨x6_27, ex6_27⟩ : ∃ y : Int32, y = x6 + 1 := ⟨_, rfl⟩
        have hw := hw x6_27 ex6_27
        refine lv_iinc (v := x6_27) (lv' := [(6, .int x6_27), (3, .int x3_25), (0, .ref h_this), (1, .int x1), (4, .int z_8), (5, .int z_23), (8, .int x8_24)]) hx hb dX10_unrank_133 hl (k := 5) rfl (by rw [ex6_27]; rfl) (by decide) rfl (fun ls hl => ?_)
        refine lv_goto (tgt := 37) hx hb dX10_unrank_136 (by decide) ?_
        exact ih x3_25 z_8 z_23 x6_27 a_order_26 hw _ _ _ hP hD hS (lv_sub hl [2, 3, 1, 4, 5, 0] rfl)
set_option maxHeartbeats 4000000 in
set_option maxRecDepth 100000 in
theorem c_X10_unrank {l : Launch} (G : qn_G) (sz : Nat) (h_this h_now h_history h_over h_order h_colors h_row h_three h_seen h_group : Nat) (f_edits : Int32) (f_total : Int32) (a_order : Nat → Int32) (x1 : Int32) (x2 : Int32) {post : (Nat → Int32) → Prop} (hw : wp_X10_unrank post a_order x1 x2) : Met l yX10_unrank wsX10_unrank rm_X10_unrank (qn_PC G [.ref h_this, .int x1, .int x2] sz (wd_X10_unrank G h_this h_now h_history h_over h_order h_colors h_row h_three h_seen h_group f_edits f_total a_order)) (qn_QV G (fun (u : (Nat → Int32)) => post u) (fun u : (Nat → Int32) => wd_X10_unrank G h_this h_now h_history h_over h_order h_colors h_row h_three h_seen h_group f_edits f_total u) (va_A (wd_X10_unrank G h_this h_now h_history h_over h_order h_colors h_row h_three h_seen h_group f_edits f_total a_order) sz)) 0 0 (va_A (wd_X10_unrank G h_this h_now h_history h_over h_order h_colors h_row h_three h_seen h_group f_edits f_total a_order) sz) := by
  refine Met.ofW (cc := cX10_unrank) (maxL := 9) (ret := none) (by decide) rfl ?_
  intro p e s m args below meth c s₁ B hml hv
  obtain ⟨rfl, hsz, hP, hE, hD0⟩ := hv
  have C0 : qn_C p m c cX10_unrank 9 s _ wsX10_unrank RX10 meth none := qn_C0 B hml
  obtain ⟨hx, hb, -, hown, hts, hr, hlocks⟩ := id C0
  subst hsz
  have hD := hD0.self (sz := s.heap.size)
  generalize hAe : va_A (wd_X10_unrank G h_this h_now h_history h_over h_order h_colors h_row h_three h_seen h_group f_edits f_total a_order) s.heap.size = A at hD ⊢
  have hA : ∀ q : Nat, s.heap.size ≤ q → A q := fun q h => by rw [← hAe]; exact Or.inr h
  clear hAe
  have hS : va_S A s.heap s.heap [] := va_S.rf
  have hl := lv_entry ([.ref h_this, .int x1, .int x2]) (n := 9) (Nat.le_of_ble_eq_true rfl)
  rw [lg_entry_eq]
  generalize (lg_sl ([.ref h_this, .int x1, .int x2]) ++ List.replicate (9 - (lg_sl ([.ref h_this, .int x1, .int x2])).length) Slot.unset).toArray = ls at hl ⊢
  have hl : lv_has ls 9 [(0, .ref h_this), (1, .int x1), (2, .int x2)] := hl
  have hP : va_P G.1 vwCl (wd_X10_unrank G h_this h_now h_history h_over h_order h_colors h_row h_three h_seen h_group f_edits f_total a_order) s.heap := hP
  refine lv_iconst (v := 1) hx hb dX10_unrank_0 (by decide) ?_
  refine lv_iload_n hx hb dX10_unrank_1 rfl (lv_at hl 1 rfl) ?_
  refine lv_ishl hx hb dX10_unrank_2 ?_
  refine lv_iconst (v := 1) hx hb dX10_unrank_3 (by decide) ?_
  refine lv_isub hx hb dX10_unrank_4 ?_
  refine lv_topi (fun x3_1 ex3_1 => ?_)
  have hw := hw x3_1 ex3_1
  refine lv_istore_n (lv' := [(3, .int x3_1), (0, .ref h_this), (1, .int x1), (2, .int x2)]) hx hb dX10_unrank_5 rfl hl (by decide) rfl (fun ls hl => ?_)
  refine lv_iload_n hx hb dX10_unrank_6 rfl (lv_at hl 3 rfl) ?_
  refine lv_istore (lv' := [(4, .int x2), (3, .int x3_1), (0, .ref h_this), (1, .int x1), (2, .int x2)]) hx hb dX10_unrank_7 hl (by decide) rfl (fun ls hl => ?_)
  refine lv_iconst (v := 1) hx hb dX10_unrank_9 (by decide) ?_
  refine lv_istore (lv' := [(5, .int 1), (4, .int x2), (3, .int x3_1), (0, .ref h_this), (1, .int x1), (2, .int x2)]) hx hb dX10_unrank_10 hl (by decide) rfl (fun ls hl => ?_)
  refine lv_iconst (v := 2) hx hb dX10_unrank_12 (by decide) ?_
  refine lv_istore (lv' := [(6, .int 2), (5, .int 1), (4, .int x2), (3, .int x3_1), (0, .ref h_this), (1, .int x1), (2, .int x2)]) hx hb dX10_unrank_13 hl (by decide) rfl (fun ls hl => ?_)
  obtain ⟨fu_31, hw⟩ := hw
  refine l_X10_unrank_15 (post := post) C0 hE hA (fun x5_5 hw H locs ls hP hD hS hl => ?_) fu_31 1 2 hw _ _ _ hP hD hS (lv_sub hl [4, 5, 3, 2, 1, 0] rfl)
  refine lv_iconst (v := 0) hx hb dX10_unrank_34 (by decide) ?_
  refine lv_istore (lv' := [(6, .int 0), (0, .ref h_this), (1, .int x1), (3, .int x3_1), (4, .int x2), (5, .int x5_5)]) hx hb dX10_unrank_35 hl (by decide) rfl (fun ls hl => ?_)
  obtain ⟨fu_30, hw⟩ := hw
  refine l_X10_unrank_37 (post := post) C0 hE hA (fun a_order_29 hw H locs ls hP hD hS hl => ?_) fu_30 x3_1 x2 x5_5 0 a_order hw _ _ _ hP hD hS (lv_sub hl [1, 2, 3, 4, 5, 0] rfl)
  exact W.vret hx hb hr (fun t ht hW => ⟨⟨a_order_29, rfl, hw, by rw [ht]; exact hP, hD⟩, hS.F ht⟩) hS.2.2 dX10_unrank_139
-- QuandleColoringsModel.factorial(I)I
abbrev rm_X10_factorial : Room := { frames := 0, cells := 0, slots := 0, locals := 0 }
abbrev wd_X10_factorial (G : qn_G) : va_W := []
def wp_X10_factorial_L4 (KL4 : Int32 → Prop) (x0 : Int32) : Nat → Int32 → Int32 → Prop
  | 0 => fun _ _ => False
  | fu + 1 => fun x1 x2 => ((x0 < x2 → (KL4 x1)) ∧ (¬ x0 < x2 → (∀ x1_2 : Int32, x1_2 = x1 * x2 → (∀ x2_3 : Int32, x2_3 = x2 + 1 → ((wp_X10_factorial_L4 KL4 x0 fu) x1_2 x2_3)))))
def wp_X10_factorial (post : Int32 → Prop) (x0 : Int32) : Prop := (∃ fu_5 : Nat, wp_X10_factorial_L4 (fun (x1_4 : Int32) => (post x1_4)) x0 fu_5 1 2)
set_option maxHeartbeats 4000000 in
set_option maxRecDepth 100000 in
theorem l_X10_factorial_4 {p : Program} {l : Launch} {e : Env} {s : State} {m : MethodId} {args : Array Value} {below : List Frame} {meth : Method} {c : Code} {G : qn_G} {A : Nat → Prop} {x0 : Int32} {post : Int32 → Prop} {KL4 : Int32 → Prop} (C0 : qn_C p m c cX10_factorial 3 s args wsX10_factorial RX10 meth (some .int)) (hE : qn_EV G s) (hA : ∀ q, s.heap.size ≤ q → A q) (hKc : ∀ (x1 : Int32), KL4 x1 → ∀ (H : Heap) (locs : List Loc) (ls : Array Slot), va_P G.1 vwCl (wd_X10_factorial G) H → va_D A (wd_X10_factorial G) → va_S A s.heap H locs → lv_has ls 3 [(1, .int x1)] → W p l e (headSpec wsX10_factorial rm_X10_factorial).room s m args below meth c H locs 0 0 (MQ below (qn_QI G (fun (r : Int32) (u : Unit) => post r) (fun u : Unit => wd_X10_factorial G) A) args s 0 0 A) (F0 m 19 ls [])) :
    ∀ (fu : Nat) (x1 : Int32) (x2 : Int32), wp_X10_factorial_L4 KL4 x0 fu x1 x2 → ∀ (H : Heap) (locs : List Loc) (ls : Array Slot), va_P G.1 vwCl (wd_X10_factorial G) H → va_D A (wd_X10_factorial G) → va_S A s.heap H locs → lv_has ls 3 [(0, .int x0), (1, .int x1), (2, .int x2)] → W p l e (headSpec wsX10_factorial rm_X10_factorial).room s m args below meth c H locs 0 0 (MQ below (qn_QI G (fun (r : Int32) (u : Unit) => post r) (fun u : Unit => wd_X10_factorial G) A) args s 0 0 A) (F0 m 4 ls []) := by
  obtain ⟨hx, hb, hml, hown, hts, hr, hlocks⟩ := id C0
  intro fu
  induction fu with
  | zero => intro x1 x2 hw; exact hw.elim
  | succ fu ih =>
    intro x1 x2 hw H locs ls hP hD hS hl
    refine lv_iload_n hx hb dX10_factorial_4 rfl (lv_at hl 2 rfl) ?_
    refine lv_iload_n hx hb dX10_factorial_5 rfl (lv_at hl 0 rfl) ?_
    refine lv_icmp_gt (tgt := 19) hx hb dX10_factorial_6 (by decide) (fun c_1 => ?_) (fun c_1 => ?_)
    · have hw := hw.1 c_1
      exact hKc x1 hw _ _ _ hP hD hS (lv_sub hl [1] rfl)
    · have hw := hw.2 c_1
      refine lv_iload_n hx hb dX10_factorial_9 rfl (lv_at hl 1 rfl) ?_
      refine lv_iload_n hx hb dX10_factorial_10 rfl (lv_at hl 2 rfl) ?_
      refine lv_imul hx hb dX10_factorial_11 ?_
      refine lv_topi (fun x1_2 ex1_2 => ?_)
      have hw := hw x1_2 ex1_2
      refine lv_istore_n (lv' := [(1, .int x1_2), (0, .int x0), (2, .int x2)]) hx hb dX10_factorial_12 rfl hl (by decide) rfl (fun ls hl => ?_)
      obtain ⟨x2_3, ex2_3⟩ : ∃ y : Int32, y = x2 + 1 := ⟨_, rfl⟩
      have hw := hw x2_3 ex2_3
      refine lv_iinc (v := x2_3) (lv' := [(2, .int x2_3), (1, .int x1_2), (0, .int x0)]) hx hb dX10_factorial_13 hl (k := 2) rfl (by rw [ex2_3]; rfl) (by decide) rfl (fun ls hl => ?_)
      refine lv_goto (tgt := 4) hx hb dX10_factorial_16 (by decide) ?_
      exact ih x1_2 x2_3 hw _ _ _ hP hD hS (lv_sub hl [2, 1, 0] rfl)
set_option maxHeartbeats 4000000 in
set_option maxRecDepth 100000 in
theorem c_X10_factorial {l : Launch} (G : qn_G) (sz : Nat) (x0 : Int32) {post : Int32 → Prop} (hw : wp_X10_factorial post x0) : Met l yX10_factorial wsX10_factorial rm_X10_factorial (qn_PC G [.int x0] sz (wd_X10_factorial G)) (qn_QI G (fun (r : Int32) (u : Unit) => post r) (fun u : Unit => wd_X10_factorial G) (va_A (wd_X10_factorial G) sz)) 0 0 (va_A (wd_X10_factorial G) sz) := by
  refine Met.ofW (cc := cX10_factorial) (maxL := 3) (ret := (some .int)) (by decide) rfl ?_
  intro p e s m args below meth c s₁ B hml hv
  obtain ⟨rfl, hsz, hP, hE, hD0⟩ := hv
  have C0 : qn_C p m c cX10_factorial 3 s _ wsX10_factorial RX10 meth (some .int) := qn_C0 B hml
  obtain ⟨hx, hb, -, hown, hts, hr, hlocks⟩ := id C0
  subst hsz
  have hD := hD0.self (sz := s.heap.size)
  generalize hAe : va_A (wd_X10_factorial G) s.heap.size = A at hD ⊢
  have hA : ∀ q : Nat, s.heap.size ≤ q → A q := fun q h => by rw [← hAe]; exact Or.inr h
  clear hAe
  have hS : va_S A s.heap s.heap [] := va_S.rf
  have hl := lv_entry ([.int x0]) (n := 3) (Nat.le_of_ble_eq_true rfl)
  rw [lg_entry_eq]
  generalize (lg_sl ([.int x0]) ++ List.replicate (3 - (lg_sl ([.int x0])).length) Slot.unset).toArray = ls at hl ⊢
  have hl : lv_has ls 3 [(0, .int x0)] := hl
  have hP : va_P G.1 vwCl (wd_X10_factorial G) s.heap := hP
  refine lv_iconst (v := 1) hx hb dX10_factorial_0 (by decide) ?_
  refine lv_istore_n (lv' := [(1, .int 1), (0, .int x0)]) hx hb dX10_factorial_1 rfl hl (by decide) rfl (fun ls hl => ?_)
  refine lv_iconst (v := 2) hx hb dX10_factorial_2 (by decide) ?_
  refine lv_istore_n (lv' := [(2, .int 2), (1, .int 1), (0, .int x0)]) hx hb dX10_factorial_3 rfl hl (by decide) rfl (fun ls hl => ?_)
  obtain ⟨fu_5, hw⟩ := hw
  refine l_X10_factorial_4 (post := post) C0 hE hA (fun x1_4 hw H locs ls hP hD hS hl => ?_) fu_5 1 2 hw _ _ _ hP hD hS (lv_sub hl [2, 1, 0] rfl)
  refine lv_iload_n hx hb dX10_factorial_19 rfl (lv_at hl 0 rfl) ?_
  exact W.iret (v := x1_4) hx hb hr (fun t ht hW => ⟨⟨x1_4, (), rfl, hw, by rw [ht]; exact hP, hD⟩, hS.F ht⟩) hS.2.2 dX10_factorial_20
-- QuandleColoringsModel.rank(I)I
abbrev rm_X10_rank : Room := { frames := 0, cells := 0, slots := 0, locals := 0 }
abbrev wd_X10_rank (G : qn_G) (h_this h_now h_history h_over h_order h_colors h_row h_three h_seen h_group : Nat) (f_edits : Int32) (f_total : Int32) (a_row : Nat → Int32) : va_W := [(h_this, .inr (10, [.ref h_now, .ref h_history, .int f_edits, .ref h_over, .ref h_order, .ref h_colors, .int f_total, .ref h_row, .ref h_three, .ref h_seen, .ref h_group])), (h_row, .inl (G.2.1, 6, .inl a_row))]
theorem in_X10_rank_X10 : ∀ w ∈ u_ws RX10 TX10 11, w ∈ wsX10_rank := by decide +kernel
theorem lk_X10_rank_25 : Cond.fieldLink RX10 25 "QuandleColoringsModel" "row" "[I" ∈ wsX10_rank := by decide +kernel
def wp_X10_rank_L17 (KL17 : Int32 → Prop) (x1 : Int32) (x3 : Int32) (a_row : Nat → Int32) : Nat → Int32 → Int32 → Prop
  | 0 => fun _ _ => False
  | fu + 1 => fun x4 x5 => ((x1 ≤ x5 → (KL17 x4)) ∧ (¬ x1 ≤ x5 → (vp_in x5 6 ∧ (vp_in x3 6 ∧ (((a_row x3.toNatClampNeg) ≤ (a_row x5.toNatClampNeg) → (∀ x4_5 : Int32, x4_5 = x4 + 0 → (∀ x5_6 : Int32, x5_6 = x5 + 1 → ((wp_X10_rank_L17 KL17 x1 x3 a_row fu) x4_5 x5_6)))) ∧ (¬ (a_row x3.toNatClampNeg) ≤ (a_row x5.toNatClampNeg) → (∀ x4_7 : Int32, x4_7 = x4 + 1 → (∀ x5_8 : Int32, x5_8 = x5 + 1 → ((wp_X10_rank_L17 KL17 x1 x3 a_row fu) x4_7 x5_8)))))))))
def wp_X10_rank_L4 (KL4 : Int32 → Prop) (x1 : Int32) (a_row : Nat → Int32) : Nat → Int32 → Int32 → Prop
  | 0 => fun _ _ => False
  | fu + 1 => fun x2 x3 => ((x1 ≤ x3 → (KL4 x2)) ∧ (¬ x1 ≤ x3 → (∀ x5_2 : Int32, x5_2 = x3 + 1 → (∃ fu_12 : Nat, wp_X10_rank_L17 (fun (x4_9 : Int32) => (∀ x2_10 : Int32, x2_10 = (x2 * (x1 - x3)) + x4_9 → (∀ x3_11 : Int32, x3_11 = x3 + 1 → ((wp_X10_rank_L4 KL4 x1 a_row fu) x2_10 x3_11)))) x1 x3 a_row fu_12 0 x5_2))))
def wp_X10_rank (post : Int32 → Prop) (a_row : Nat → Int32) (x1 : Int32) : Prop := (∃ fu_14 : Nat, wp_X10_rank_L4 (fun (x2_13 : Int32) => (post x2_13)) x1 a_row fu_14 0 0)
set_option maxHeartbeats 4000000 in
set_option maxRecDepth 100000 in
theorem l_X10_rank_17 {p : Program} {l : Launch} {e : Env} {s : State} {m : MethodId} {args : Array Value} {below : List Frame} {meth : Method} {c : Code} {G : qn_G} {A : Nat → Prop} {h_this h_now h_history h_over h_order h_colors h_row h_three h_seen h_group : Nat} {f_edits : Int32} {f_total : Int32} {a_row : Nat → Int32} {x1 : Int32} {x2 : Int32} {x3 : Int32} {post : Int32 → Prop} {KL17 : Int32 → Prop} (C0 : qn_C p m c cX10_rank 6 s args wsX10_rank RX10 meth (some .int)) (hE : qn_EV G s) (hA : ∀ q, s.heap.size ≤ q → A q) (hKc : ∀ (x4 : Int32), KL17 x4 → ∀ (H : Heap) (locs : List Loc) (ls : Array Slot), va_P G.1 vwCl (wd_X10_rank G h_this h_now h_history h_over h_order h_colors h_row h_three h_seen h_group f_edits f_total a_row) H → va_D A (wd_X10_rank G h_this h_now h_history h_over h_order h_colors h_row h_three h_seen h_group f_edits f_total a_row) → va_S A s.heap H locs → lv_has ls 6 [(0, .ref h_this), (1, .int x1), (2, .int x2), (3, .int x3), (4, .int x4)] → W p l e (headSpec wsX10_rank rm_X10_rank).room s m args below meth c H locs 0 0 (MQ below (qn_QI G (fun (r : Int32) (u : Unit) => post r) (fun u : Unit => wd_X10_rank G h_this h_now h_history h_over h_order h_colors h_row h_three h_seen h_group f_edits f_total a_row) A) args s 0 0 A) (F0 m 55 ls [])) :
    ∀ (fu : Nat) (x4 : Int32) (x5 : Int32), wp_X10_rank_L17 KL17 x1 x3 a_row fu x4 x5 → ∀ (H : Heap) (locs : List Loc) (ls : Array Slot), va_P G.1 vwCl (wd_X10_rank G h_this h_now h_history h_over h_order h_colors h_row h_three h_seen h_group f_edits f_total a_row) H → va_D A (wd_X10_rank G h_this h_now h_history h_over h_order h_colors h_row h_three h_seen h_group f_edits f_total a_row) → va_S A s.heap H locs → lv_has ls 6 [(0, .ref h_this), (1, .int x1), (2, .int x2), (3, .int x3), (4, .int x4), (5, .int x5)] → W p l e (headSpec wsX10_rank rm_X10_rank).room s m args below meth c H locs 0 0 (MQ below (qn_QI G (fun (r : Int32) (u : Unit) => post r) (fun u : Unit => wd_X10_rank G h_this h_now h_history h_over h_order h_colors h_row h_three h_seen h_group f_edits f_total a_row) A) args s 0 0 A) (F0 m 17 ls []) := by
  obtain ⟨hx, hb, hml, hown, hts, hr, hlocks⟩ := id C0
  intro fu
  induction fu with
  | zero => intro x4 x5 hw; exact hw.elim
  | succ fu ih =>
    intro x4 x5 hw H locs ls hP hD hS hl
    refine lv_iload hx hb dX10_rank_17 (lv_at hl 5 rfl) ?_
    refine lv_iload_n hx hb dX10_rank_19 rfl (lv_at hl 1 rfl) ?_
    refine lv_icmp_ge (tgt := 55) hx hb dX10_rank_20 (by decide) (fun c_3 => ?_) (fun c_3 => ?_)
    · have hw := hw.1 c_3
      exact hKc x4 hw _ _ _ hP hD hS (lv_sub hl [0, 1, 2, 3, 4] rfl)
    · have hw := hw.2 c_3
      refine lv_iload hx hb dX10_rank_23 (lv_at hl 4 rfl) ?_
      refine lv_aload_n hx hb dX10_rank_25 rfl (lv_at hl 0 rfl) ?_
      refine va_get (D := G.1) (ci := 10) (v := .ref h_row) (C := RX10) (T := TX10) (N := 11) hx hb hts in_X10_rank_X10 hown hE.1 hP 0 rfl rfl 7 (by decide) (hts (.fieldLink RX10 25 "QuandleColoringsModel" "row" "[I") lk_X10_rank_25) (fun _ h9 => h9) rfl dX10_rank_26 ?_
      refine lv_iload hx hb dX10_rank_29 (lv_at hl 5 rfl) ?_
      have hin := hw.1
      have hw := hw.2
      refine va_iald hx hb hE.1 hP 1 0 rfl rfl hin dX10_rank_31 ?_
      refine lv_aload_n hx hb dX10_rank_32 rfl (lv_at hl 0 rfl) ?_
      refine va_get (D := G.1) (ci := 10) (v := .ref h_row) (C := RX10) (T := TX10) (N := 11) hx hb hts in_X10_rank_X10 hown hE.1 hP 0 rfl rfl 7 (by decide) (hts (.fieldLink RX10 25 "QuandleColoringsModel" "row" "[I") lk_X10_rank_25) (fun _ h9 => h9) rfl dX10_rank_33 ?_
      refine lv_iload_n hx hb dX10_rank_36 rfl (lv_at hl 3 rfl) ?_
      have hin := hw.1
      have hw := hw.2
      refine va_iald hx hb hE.1 hP 1 0 rfl rfl hin dX10_rank_37 ?_
      refine lv_icmp_ge (tgt := 45) hx hb dX10_rank_38 (by decide) (fun c_4 => ?_) (fun c_4 => ?_)
      · have hw := hw.1 c_4
        refine lv_iconst (v := 0) hx hb dX10_rank_45 (by decide) ?_
        refine lv_iadd hx hb dX10_rank_46 ?_
        refine lv_topi (fun x4_5 ex4_5 => ?_)
        have hw := hw x4_5 ex4_5
        refine lv_istore (lv' := [(4, .int x4_5), (0, .ref h_this), (1, .int x1), (2, .int x2), (3, .int x3), (5, .int x5)]) hx hb dX10_rank_47 hl (by decide) rfl (fun ls hl => ?_)
        obtain ⟨x5_6, ex5_6⟩ : ∃ y : Int32, y = x5 + 1 := ⟨_, rfl⟩
        have hw := hw x5_6 ex5_6
        refine lv_iinc (v := x5_6) (lv' := [(5, .int x5_6), (4, .int x4_5), (0, .ref h_this), (1, .int x1), (2, .int x2), (3, .int x3)]) hx hb dX10_rank_49 hl (k := 5) rfl (by rw [ex5_6]; rfl) (by decide) rfl (fun ls hl => ?_)
        refine lv_goto (tgt := 17) hx hb dX10_rank_52 (by decide) ?_
        exact ih x4_5 x5_6 hw _ _ _ hP hD hS (lv_sub hl [2, 3, 4, 5, 1, 0] rfl)
      · have hw := hw.2 c_4
        refine lv_iconst (v := 1) hx hb dX10_rank_41 (by decide) ?_
        refine lv_goto (tgt := 46) hx hb dX10_rank_42 (by decide) ?_
        refine lv_iadd hx hb dX10_rank_46 ?_
        refine lv_topi (fun x4_7 ex4_7 => ?_)
        have hw := hw x4_7 ex4_7
        refine lv_istore (lv' := [(4, .int x4_7), (0, .ref h_this), (1, .int x1), (2, .int x2), (3, .int x3), (5, .int x5)]) hx hb dX10_rank_47 hl (by decide) rfl (fun ls hl => ?_)
        obtain ⟨x5_8, ex5_8⟩ : ∃ y : Int32, y = x5 + 1 := ⟨_, rfl⟩
        have hw := hw x5_8 ex5_8
        refine lv_iinc (v := x5_8) (lv' := [(5, .int x5_8), (4, .int x4_7), (0, .ref h_this), (1, .int x1), (2, .int x2), (3, .int x3)]) hx hb dX10_rank_49 hl (k := 5) rfl (by rw [ex5_8]; rfl) (by decide) rfl (fun ls hl => ?_)
        refine lv_goto (tgt := 17) hx hb dX10_rank_52 (by decide) ?_
        exact ih x4_7 x5_8 hw _ _ _ hP hD hS (lv_sub hl [2, 3, 4, 5, 1, 0] rfl)
set_option maxHeartbeats 4000000 in
set_option maxRecDepth 100000 in
theorem l_X10_rank_4 {p : Program} {l : Launch} {e : Env} {s : State} {m : MethodId} {args : Array Value} {below : List Frame} {meth : Method} {c : Code} {G : qn_G} {A : Nat → Prop} {h_this h_now h_history h_over h_order h_colors h_row h_three h_seen h_group : Nat} {f_edits : Int32} {f_total : Int32} {a_row : Nat → Int32} {x1 : Int32} {post : Int32 → Prop} {KL4 : Int32 → Prop} (C0 : qn_C p m c cX10_rank 6 s args wsX10_rank RX10 meth (some .int)) (hE : qn_EV G s) (hA : ∀ q, s.heap.size ≤ q → A q) (hKc : ∀ (x2 : Int32), KL4 x2 → ∀ (H : Heap) (locs : List Loc) (ls : Array Slot), va_P G.1 vwCl (wd_X10_rank G h_this h_now h_history h_over h_order h_colors h_row h_three h_seen h_group f_edits f_total a_row) H → va_D A (wd_X10_rank G h_this h_now h_history h_over h_order h_colors h_row h_three h_seen h_group f_edits f_total a_row) → va_S A s.heap H locs → lv_has ls 6 [(2, .int x2)] → W p l e (headSpec wsX10_rank rm_X10_rank).room s m args below meth c H locs 0 0 (MQ below (qn_QI G (fun (r : Int32) (u : Unit) => post r) (fun u : Unit => wd_X10_rank G h_this h_now h_history h_over h_order h_colors h_row h_three h_seen h_group f_edits f_total a_row) A) args s 0 0 A) (F0 m 70 ls [])) :
    ∀ (fu : Nat) (x2 : Int32) (x3 : Int32), wp_X10_rank_L4 KL4 x1 a_row fu x2 x3 → ∀ (H : Heap) (locs : List Loc) (ls : Array Slot), va_P G.1 vwCl (wd_X10_rank G h_this h_now h_history h_over h_order h_colors h_row h_three h_seen h_group f_edits f_total a_row) H → va_D A (wd_X10_rank G h_this h_now h_history h_over h_order h_colors h_row h_three h_seen h_group f_edits f_total a_row) → va_S A s.heap H locs → lv_has ls 6 [(0, .ref h_this), (1, .int x1), (2, .int x2), (3, .int x3)] → W p l e (headSpec wsX10_rank rm_X10_rank).room s m args below meth c H locs 0 0 (MQ below (qn_QI G (fun (r : Int32) (u : Unit) => post r) (fun u : Unit => wd_X10_rank G h_this h_now h_history h_over h_order h_colors h_row h_three h_seen h_group f_edits f_total a_row) A) args s 0 0 A) (F0 m 4 ls []) := by
  obtain ⟨hx, hb, hml, hown, hts, hr, hlocks⟩ := id C0
  intro fu
  induction fu with
  | zero => intro x2 x3 hw; exact hw.elim
  | succ fu ih =>
    intro x2 x3 hw H locs ls hP hD hS hl
    refine lv_iload_n hx hb dX10_rank_4 rfl (lv_at hl 3 rfl) ?_
    refine lv_iload_n hx hb dX10_rank_5 rfl (lv_at hl 1 rfl) ?_
    refine lv_icmp_ge (tgt := 70) hx hb dX10_rank_6 (by decide) (fun c_1 => ?_) (fun c_1 => ?_)
    · have hw := hw.1 c_1
      exact hKc x2 hw _ _ _ hP hD hS (lv_sub hl [2] rfl)
    · have hw := hw.2 c_1
      refine lv_iconst (v := 0) hx hb dX10_rank_9 (by decide) ?_
      refine lv_istore (lv' := [(4, .int 0), (0, .ref h_this), (1, .int x1), (2, .int x2), (3, .int x3)]) hx hb dX10_rank_10 hl (by decide) rfl (fun ls hl => ?_)
      refine lv_iload_n hx hb dX10_rank_12 rfl (lv_at hl 4 rfl) ?_
      refine lv_iconst (v := 1) hx hb dX10_rank_13 (by decide) ?_
      refine lv_iadd hx hb dX10_rank_14 ?_
      refine lv_topi (fun x5_2 ex5_2 => ?_)
      have hw := hw x5_2 ex5_2
      refine lv_istore (lv' := [(5, .int x5_2), (4, .int 0), (0, .ref h_this), (1, .int x1), (2, .int x2), (3, .int x3)]) hx hb dX10_rank_15 hl (by decide) rfl (fun ls hl => ?_)
      obtain ⟨fu_12, hw⟩ := hw
      refine l_X10_rank_17 (post := post) C0 hE hA (fun x4_9 hw H locs ls hP hD hS hl => ?_) fu_12 0 x5_2 hw _ _ _ hP hD hS (lv_sub hl [2, 3, 4, 5, 1, 0] rfl)
      refine lv_iload_n hx hb dX10_rank_55 rfl (lv_at hl 2 rfl) ?_
      refine lv_iload_n hx hb dX10_rank_56 rfl (lv_at hl 1 rfl) ?_
      refine lv_iload_n hx hb dX10_rank_57 rfl (lv_at hl 3 rfl) ?_
      refine lv_isub hx hb dX10_rank_58 ?_
      refine lv_imul hx hb dX10_rank_59 ?_
      refine lv_iload hx hb dX10_rank_60 (lv_at hl 4 rfl) ?_
      refine lv_iadd hx hb dX10_rank_62 ?_
      refine lv_topi (fun x2_10 ex2_10 => ?_)
      have hw := hw x2_10 ex2_10
      refine lv_istore_n (lv' := [(2, .int x2_10), (0, .ref h_this), (1, .int x1), (3, .int x3), (4, .int x4_9)]) hx hb dX10_rank_63 rfl hl (by decide) rfl (fun ls hl => ?_)
      obtain ⟨x3_11, ex3_11⟩ : ∃ y : Int32, y = x3 + 1 := ⟨_, rfl⟩
      have hw := hw x3_11 ex3_11
      refine lv_iinc (v := x3_11) (lv' := [(3, .int x3_11), (2, .int x2_10), (0, .ref h_this), (1, .int x1), (4, .int x4_9)]) hx hb dX10_rank_64 hl (k := 3) rfl (by rw [ex3_11]; rfl) (by decide) rfl (fun ls hl => ?_)
      refine lv_goto (tgt := 4) hx hb dX10_rank_67 (by decide) ?_
      exact ih x2_10 x3_11 hw _ _ _ hP hD hS (lv_sub hl [2, 3, 1, 0] rfl)
set_option maxHeartbeats 4000000 in
set_option maxRecDepth 100000 in
theorem c_X10_rank {l : Launch} (G : qn_G) (sz : Nat) (h_this h_now h_history h_over h_order h_colors h_row h_three h_seen h_group : Nat) (f_edits : Int32) (f_total : Int32) (a_row : Nat → Int32) (x1 : Int32) {post : Int32 → Prop} (hw : wp_X10_rank post a_row x1) : Met l yX10_rank wsX10_rank rm_X10_rank (qn_PC G [.ref h_this, .int x1] sz (wd_X10_rank G h_this h_now h_history h_over h_order h_colors h_row h_three h_seen h_group f_edits f_total a_row)) (qn_QI G (fun (r : Int32) (u : Unit) => post r) (fun u : Unit => wd_X10_rank G h_this h_now h_history h_over h_order h_colors h_row h_three h_seen h_group f_edits f_total a_row) (va_A (wd_X10_rank G h_this h_now h_history h_over h_order h_colors h_row h_three h_seen h_group f_edits f_total a_row) sz)) 0 0 (va_A (wd_X10_rank G h_this h_now h_history h_over h_order h_colors h_row h_three h_seen h_group f_edits f_total a_row) sz) := by
  refine Met.ofW (cc := cX10_rank) (maxL := 6) (ret := (some .int)) (by decide) rfl ?_
  intro p e s m args below meth c s₁ B hml hv
  obtain ⟨rfl, hsz, hP, hE, hD0⟩ := hv
  have C0 : qn_C p m c cX10_rank 6 s _ wsX10_rank RX10 meth (some .int) := qn_C0 B hml
  obtain ⟨hx, hb, -, hown, hts, hr, hlocks⟩ := id C0
  subst hsz
  have hD := hD0.self (sz := s.heap.size)
  generalize hAe : va_A (wd_X10_rank G h_this h_now h_history h_over h_order h_colors h_row h_three h_seen h_group f_edits f_total a_row) s.heap.size = A at hD ⊢
  have hA : ∀ q : Nat, s.heap.size ≤ q → A q := fun q h => by rw [← hAe]; exact Or.inr h
  clear hAe
  have hS : va_S A s.heap s.heap [] := va_S.rf
  have hl := lv_entry ([.ref h_this, .int x1]) (n := 6) (Nat.le_of_ble_eq_true rfl)
  rw [lg_entry_eq]
  generalize (lg_sl ([.ref h_this, .int x1]) ++ List.replicate (6 - (lg_sl ([.ref h_this, .int x1])).length) Slot.unset).toArray = ls at hl ⊢
  have hl : lv_has ls 6 [(0, .ref h_this), (1, .int x1)] := hl
  have hP : va_P G.1 vwCl (wd_X10_rank G h_this h_now h_history h_over h_order h_colors h_row h_three h_seen h_group f_edits f_total a_row) s.heap := hP
  refine lv_iconst (v := 0) hx hb dX10_rank_0 (by decide) ?_
  refine lv_istore_n (lv' := [(2, .int 0), (0, .ref h_this), (1, .int x1)]) hx hb dX10_rank_1 rfl hl (by decide) rfl (fun ls hl => ?_)
  refine lv_iconst (v := 0) hx hb dX10_rank_2 (by decide) ?_
  refine lv_istore_n (lv' := [(3, .int 0), (2, .int 0), (0, .ref h_this), (1, .int x1)]) hx hb dX10_rank_3 rfl hl (by decide) rfl (fun ls hl => ?_)
  obtain ⟨fu_14, hw⟩ := hw
  refine l_X10_rank_4 (post := post) C0 hE hA (fun x2_13 hw H locs ls hP hD hS hl => ?_) fu_14 0 0 hw _ _ _ hP hD hS (lv_sub hl [2, 3, 1, 0] rfl)
  refine lv_iload_n hx hb dX10_rank_70 rfl (lv_at hl 0 rfl) ?_
  exact W.iret (v := x2_13) hx hb hr (fun t ht hW => ⟨⟨x2_13, (), rfl, hw, by rw [ht]; exact hP, hD⟩, hS.F ht⟩) hS.2.2 dX10_rank_71
-- QuandleColoringsModel.loadConjugation()I
abbrev rm_X10_loadConjugation : Room := { frames := 2, cells := 0, slots := 0, locals := 43 }
abbrev wd_X10_loadConjugation (G : qn_G) (h_this h_now h_history h_over h_order h_colors h_row h_three h_seen h_group : Nat) (f_edits : Int32) (f_total : Int32) (a_now : Nat → Int32) (a_history : Nat → Int32) (a_order : Nat → Int32) (a_row : Nat → Int32) (a_three : Nat → Int32) : va_W := [(h_this, .inr (10, [.ref h_now, .ref h_history, .int f_edits, .ref h_over, .ref h_order, .ref h_colors, .int f_total, .ref h_row, .ref h_three, .ref h_seen, .ref h_group])), (h_now, .inl (G.2.1, 88, .inl a_now)), (h_history, .inl (G.2.1, 440, .inl a_history)), (h_order, .inl (G.2.1, 6, .inl a_order)), (h_row, .inl (G.2.1, 6, .inl a_row)), (h_three, .inl (G.2.1, 18, .inl a_three))]
theorem in_X10_loadConjugation_X10 : ∀ w ∈ u_ws RX10 TX10 11, w ∈ wsX10_loadConjugation := by decide +kernel
theorem lk_X10_loadConjugation_19 : Cond.fieldLink RX10 19 "QuandleColoringsModel" "order" "[I" ∈ wsX10_loadConjugation := by decide +kernel
theorem lk_X10_loadConjugation_25 : Cond.fieldLink RX10 25 "QuandleColoringsModel" "row" "[I" ∈ wsX10_loadConjugation := by decide +kernel
theorem lk_X10_loadConjugation_28 : Cond.fieldLink RX10 28 "QuandleColoringsModel" "three" "[I" ∈ wsX10_loadConjugation := by decide +kernel
theorem lk_X10_loadConjugation_7 : Cond.fieldLink RX10 7 "QuandleColoringsModel" "now" "[I" ∈ wsX10_loadConjugation := by decide +kernel
def wp_X10_loadConjugation_L22 (KL22 : (Nat → Int32) → Prop) (x1 : Int32) (a_order : Nat → Int32) : Nat → Int32 → (Nat → Int32) → Prop
  | 0 => fun _ _ => False
  | fu + 1 => fun x2 a_three => ((3 ≤ x2 → (KL22 a_three)) ∧ (¬ 3 ≤ x2 → (vp_in x2 6 ∧ (vp_in ((3 * x1) + x2) 18 ∧ (∀ a_three_8 : Nat → Int32, a_three_8 = upd a_three ((3 * x1) + x2).toNatClampNeg (a_order x2.toNatClampNeg) → (∀ x2_9 : Int32, x2_9 = x2 + 1 → ((wp_X10_loadConjugation_L22 KL22 x1 a_order fu) x2_9 a_three_8)))))))
def wp_X10_loadConjugation_L8 (KL8 : (Nat → Int32) → (Nat → Int32) → Prop) : Nat → Int32 → (Nat → Int32) → (Nat → Int32) → Prop
  | 0 => fun _ _ _ => False
  | fu + 1 => fun x1 a_order a_three => ((6 ≤ x1 → (KL8 a_order a_three)) ∧ (¬ 6 ≤ x1 → (wp_X10_unrank (fun (a_order_6 : Nat → Int32) => (∃ fu_12 : Nat, wp_X10_loadConjugation_L22 (fun (a_three_10 : Nat → Int32) => (∀ x1_11 : Int32, x1_11 = x1 + 1 → ((wp_X10_loadConjugation_L8 KL8 fu) x1_11 a_order_6 a_three_10))) x1 a_order_6 fu_12 0 a_three)) a_order 3 x1)))
def wp_X10_loadConjugation_L102 (KL102 : Int32 → Prop) (x2 : Int32) (x4 : Int32) (a_three : Nat → Int32) : Nat → Int32 → Prop
  | 0 => fun _ => False
  | fu + 1 => fun x5 => (vp_in ((3 * x2) + x5) 18 ∧ (((a_three ((3 * x2) + x5).toNatClampNeg) = x4 → (KL102 x5)) ∧ (¬ (a_three ((3 * x2) + x5).toNatClampNeg) = x4 → (∀ x5_20 : Int32, x5_20 = x5 + 1 → ((wp_X10_loadConjugation_L102 KL102 x2 x4 a_three fu) x5_20)))))
def wp_X10_loadConjugation_L73 (KL73 : (Nat → Int32) → Prop) (x1 : Int32) (x2 : Int32) (a_three : Nat → Int32) : Nat → Int32 → (Nat → Int32) → Prop
  | 0 => fun _ _ => False
  | fu + 1 => fun x3 a_row => ((3 ≤ x3 → (KL73 a_row)) ∧ (¬ 3 ≤ x3 → (vp_in ((3 * x2) + x3) 18 ∧ (vp_in ((3 * x1) + (a_three ((3 * x2) + x3).toNatClampNeg)) 18 ∧ (∀ x4_18 : Int32, x4_18 = a_three ((3 * x1) + (a_three ((3 * x2) + x3).toNatClampNeg)).toNatClampNeg → (∃ fu_24 : Nat, wp_X10_loadConjugation_L102 (fun (x5_21 : Int32) => (vp_in x3 6 ∧ (∀ a_row_22 : Nat → Int32, a_row_22 = upd a_row x3.toNatClampNeg x5_21 → (∀ x3_23 : Int32, x3_23 = x3 + 1 → ((wp_X10_loadConjugation_L73 KL73 x1 x2 a_three fu) x3_23 a_row_22))))) x2 x4_18 a_three fu_24 0))))))
def wp_X10_loadConjugation_L65 (KL65 : (Nat → Int32) → (Nat → Int32) → Prop) (x1 : Int32) (a_three : Nat → Int32) : Nat → Int32 → (Nat → Int32) → (Nat → Int32) → Prop
  | 0 => fun _ _ _ => False
  | fu + 1 => fun x2 a_now a_row => ((6 ≤ x2 → (KL65 a_now a_row)) ∧ (¬ 6 ≤ x2 → (∃ fu_29 : Nat, wp_X10_loadConjugation_L73 (fun (a_row_25 : Nat → Int32) => (wp_X10_rank (fun (r_26 : Int32) => (vp_in ((6 * x1) + x2) 88 ∧ (∀ a_now_27 : Nat → Int32, a_now_27 = upd a_now ((6 * x1) + x2).toNatClampNeg r_26 → (∀ x2_28 : Int32, x2_28 = x2 + 1 → ((wp_X10_loadConjugation_L65 KL65 x1 a_three fu) x2_28 a_now_27 a_row_25))))) a_row_25 3)) x1 x2 a_three fu_29 0 a_row)))
def wp_X10_loadConjugation_L57 (KL57 : (Nat → Int32) → (Nat → Int32) → Prop) (a_three : Nat → Int32) : Nat → Int32 → (Nat → Int32) → (Nat → Int32) → Prop
  | 0 => fun _ _ _ => False
  | fu + 1 => fun x1 a_now a_row => ((6 ≤ x1 → (KL57 a_now a_row)) ∧ (¬ 6 ≤ x1 → (∃ fu_33 : Nat, wp_X10_loadConjugation_L65 (fun (a_now_30 : Nat → Int32) (a_row_31 : Nat → Int32) => (∀ x1_32 : Int32, x1_32 = x1 + 1 → ((wp_X10_loadConjugation_L57 KL57 a_three fu) x1_32 a_now_30 a_row_31))) x1 a_three fu_33 0 a_now a_row)))
def wp_X10_loadConjugation (post : Int32 → Int32 → (Nat → Int32) → (Nat → Int32) → (Nat → Int32) → (Nat → Int32) → (Nat → Int32) → Prop) (f_edits : Int32) (a_now : Nat → Int32) (a_history : Nat → Int32) (a_order : Nat → Int32) (a_row : Nat → Int32) (a_three : Nat → Int32) : Prop := (wp_X10_loads (fun (f_edits_1 : Int32) (a_now_2 : Nat → Int32) (a_history_3 : Nat → Int32) => (∃ fu_37 : Nat, wp_X10_loadConjugation_L8 (fun (a_order_13 : Nat → Int32) (a_three_14 : Nat → Int32) => (∃ fu_36 : Nat, wp_X10_loadConjugation_L57 (fun (a_now_34 : Nat → Int32) (a_row_35 : Nat → Int32) => (post 6 f_edits_1 a_now_34 a_history_3 a_order_13 a_row_35 a_three_14)) a_three_14 fu_36 0 a_now_2 a_row)) fu_37 0 a_order a_three)) f_edits a_now a_history 6)
set_option maxHeartbeats 4000000 in
set_option maxRecDepth 100000 in
theorem l_X10_loadConjugation_22 {p : Program} {l : Launch} {e : Env} {s : State} {m : MethodId} {args : Array Value} {below : List Frame} {meth : Method} {c : Code} {G : qn_G} {A : Nat → Prop} {h_this h_now h_history h_over h_order h_colors h_row h_three h_seen h_group : Nat} {f_edits : Int32} {f_total : Int32} {a_now : Nat → Int32} {a_history : Nat → Int32} {a_order : Nat → Int32} {a_row : Nat → Int32} {x1 : Int32} {post : Int32 → Int32 → (Nat → Int32) → (Nat → Int32) → (Nat → Int32) → (Nat → Int32) → (Nat → Int32) → Prop} {KL22 : (Nat → Int32) → Prop} (C0 : qn_C p m c cX10_loadConjugation 6 s args wsX10_loadConjugation RX10 meth (some .int)) (hE : qn_EV G s) (hA : ∀ q, s.heap.size ≤ q → A q) (hKc : ∀ (a_three : Nat → Int32), KL22 a_three → ∀ (H : Heap) (locs : List Loc) (ls : Array Slot), va_P G.1 vwCl (wd_X10_loadConjugation G h_this h_now h_history h_over h_order h_colors h_row h_three h_seen h_group f_edits f_total a_now a_history a_order a_row a_three) H → va_D A (wd_X10_loadConjugation G h_this h_now h_history h_over h_order h_colors h_row h_three h_seen h_group f_edits f_total a_now a_history a_order a_row a_three) → va_S A s.heap H locs → lv_has ls 6 [(0, .ref h_this), (1, .int x1)] → W p l e (headSpec wsX10_loadConjugation rm_X10_loadConjugation).room s m args below meth c H locs 0 0 (MQ below (qn_QI G (fun (r : Int32) (u : Int32 × (Nat → Int32) × (Nat → Int32) × (Nat → Int32) × (Nat → Int32) × (Nat → Int32)) => post r u.1 u.2.1 u.2.2.1 u.2.2.2.1 u.2.2.2.2.1 u.2.2.2.2.2) (fun u : Int32 × (Nat → Int32) × (Nat → Int32) × (Nat → Int32) × (Nat → Int32) × (Nat → Int32) => wd_X10_loadConjugation G h_this h_now h_history h_over h_order h_colors h_row h_three h_seen h_group (u.1) f_total (u.2.1) (u.2.2.1) (u.2.2.2.1) (u.2.2.2.2.1) (u.2.2.2.2.2)) A) args s 0 0 A) (F0 m 49 ls [])) :
    ∀ (fu : Nat) (x2 : Int32) (a_three : Nat → Int32), wp_X10_loadConjugation_L22 KL22 x1 a_order fu x2 a_three → ∀ (H : Heap) (locs : List Loc) (ls : Array Slot), va_P G.1 vwCl (wd_X10_loadConjugation G h_this h_now h_history h_over h_order h_colors h_row h_three h_seen h_group f_edits f_total a_now a_history a_order a_row a_three) H → va_D A (wd_X10_loadConjugation G h_this h_now h_history h_over h_order h_colors h_row h_three h_seen h_group f_edits f_total a_now a_history a_order a_row a_three) → va_S A s.heap H locs → lv_has ls 6 [(0, .ref h_this), (1, .int x1), (2, .int x2)] → W p l e (headSpec wsX10_loadConjugation rm_X10_loadConjugation).room s m args below meth c H locs 0 0 (MQ below (qn_QI G (fun (r : Int32) (u : Int32 × (Nat → Int32) × (Nat → Int32) × (Nat → Int32) × (Nat → Int32) × (Nat → Int32)) => post r u.1 u.2.1 u.2.2.1 u.2.2.2.1 u.2.2.2.2.1 u.2.2.2.2.2) (fun u : Int32 × (Nat → Int32) × (Nat → Int32) × (Nat → Int32) × (Nat → Int32) × (Nat → Int32) => wd_X10_loadConjugation G h_this h_now h_history h_over h_order h_colors h_row h_three h_seen h_group (u.1) f_total (u.2.1) (u.2.2.1) (u.2.2.2.1) (u.2.2.2.2.1) (u.2.2.2.2.2)) A) args s 0 0 A) (F0 m 22 ls []) := by
  obtain ⟨hx, hb, hml, hown, hts, hr, hlocks⟩ := id C0
  intro fu
  induction fu with
  | zero => intro x2 a_three hw; exact hw.elim
  | succ fu ih =>
    intro x2 a_three hw H locs ls hP hD hS hl
    refine lv_iload_n hx hb dX10_loadConjugation_22 rfl (lv_at hl 2 rfl) ?_
    refine lv_iconst (v := 3) hx hb dX10_loadConjugation_23 (by decide) ?_
    refine lv_icmp_ge (tgt := 49) hx hb dX10_loadConjugation_24 (by decide) (fun c_7 => ?_) (fun c_7 => ?_)
    · have hw := hw.1 c_7
      exact hKc a_three hw _ _ _ hP hD hS (lv_sub hl [0, 1] rfl)
    · have hw := hw.2 c_7
      refine lv_aload_n hx hb dX10_loadConjugation_27 rfl (lv_at hl 0 rfl) ?_
      refine va_get (D := G.1) (ci := 10) (v := .ref h_three) (C := RX10) (T := TX10) (N := 11) hx hb hts in_X10_loadConjugation_X10 hown hE.1 hP 0 rfl rfl 8 (by decide) (hts (.fieldLink RX10 28 "QuandleColoringsModel" "three" "[I") lk_X10_loadConjugation_28) (fun _ h9 => h9) rfl dX10_loadConjugation_28 ?_
      refine lv_iconst (v := 3) hx hb dX10_loadConjugation_31 (by decide) ?_
      refine lv_iload_n hx hb dX10_loadConjugation_32 rfl (lv_at hl 1 rfl) ?_
      refine lv_imul hx hb dX10_loadConjugation_33 ?_
      refine lv_iload_n hx hb dX10_loadConjugation_34 rfl (lv_at hl 2 rfl) ?_
      refine lv_iadd hx hb dX10_loadConjugation_35 ?_
      refine lv_aload_n hx hb dX10_loadConjugation_36 rfl (lv_at hl 0 rfl) ?_
      refine va_get (D := G.1) (ci := 10) (v := .ref h_order) (C := RX10) (T := TX10) (N := 11) hx hb hts in_X10_loadConjugation_X10 hown hE.1 hP 0 rfl rfl 4 (by decide) (hts (.fieldLink RX10 19 "QuandleColoringsModel" "order" "[I") lk_X10_loadConjugation_19) (fun _ h9 => h9) rfl dX10_loadConjugation_37 ?_
      refine lv_iload_n hx hb dX10_loadConjugation_40 rfl (lv_at hl 2 rfl) ?_
      have hin := hw.1
      have hw := hw.2
      refine va_iald hx hb hE.1 hP 3 0 rfl rfl hin dX10_loadConjugation_41 ?_
      have hin := hw.1
      have hw := hw.2
      obtain ⟨a_three_8, ea_three_8⟩ : ∃ y : Nat → Int32, y = upd a_three ((3 * x1) + x2).toNatClampNeg (a_order x2.toNatClampNeg) := ⟨_, rfl⟩
      have hw := hw a_three_8 ea_three_8
      refine va_iast hx hb hE.1 hP hD hS 5 0 rfl rfl hin dX10_loadConjugation_42 (fun H locs hP hD hS => ?_)
      rw [← ea_three_8] at hP hD
      have hP : va_P G.1 vwCl (wd_X10_loadConjugation G h_this h_now h_history h_over h_order h_colors h_row h_three h_seen h_group f_edits f_total a_now a_history a_order a_row a_three_8) H := hP
      have hD : va_D A (wd_X10_loadConjugation G h_this h_now h_history h_over h_order h_colors h_row h_three h_seen h_group f_edits f_total a_now a_history a_order a_row a_three_8) := hD
      obtain ⟨x2_9, ex2_9⟩ : ∃ y : Int32, y = x2 + 1 := ⟨_, rfl⟩
      have hw := hw x2_9 ex2_9
      refine lv_iinc (v := x2_9) (lv' := [(2, .int x2_9), (0, .ref h_this), (1, .int x1)]) hx hb dX10_loadConjugation_43 hl (k := 2) rfl (by rw [ex2_9]; rfl) (by decide) rfl (fun ls hl => ?_)
      refine lv_goto (tgt := 22) hx hb dX10_loadConjugation_46 (by decide) ?_
      exact ih x2_9 a_three_8 hw _ _ _ hP hD hS (lv_sub hl [1, 2, 0] rfl)
set_option maxHeartbeats 4000000 in
set_option maxRecDepth 100000 in
theorem l_X10_loadConjugation_8 {p : Program} {l : Launch} {e : Env} {s : State} {m : MethodId} {args : Array Value} {below : List Frame} {meth : Method} {c : Code} {G : qn_G} {A : Nat → Prop} {h_this h_now h_history h_over h_order h_colors h_row h_three h_seen h_group : Nat} {f_edits : Int32} {f_total : Int32} {a_now : Nat → Int32} {a_history : Nat → Int32} {a_row : Nat → Int32} {post : Int32 → Int32 → (Nat → Int32) → (Nat → Int32) → (Nat → Int32) → (Nat → Int32) → (Nat → Int32) → Prop} {KL8 : (Nat → Int32) → (Nat → Int32) → Prop} (C0 : qn_C p m c cX10_loadConjugation 6 s args wsX10_loadConjugation RX10 meth (some .int)) (hE : qn_EV G s) (hA : ∀ q, s.heap.size ≤ q → A q) (hKc : ∀ (a_order : Nat → Int32) (a_three : Nat → Int32), KL8 a_order a_three → ∀ (H : Heap) (locs : List Loc) (ls : Array Slot), va_P G.1 vwCl (wd_X10_loadConjugation G h_this h_now h_history h_over h_order h_colors h_row h_three h_seen h_group f_edits f_total a_now a_history a_order a_row a_three) H → va_D A (wd_X10_loadConjugation G h_this h_now h_history h_over h_order h_colors h_row h_three h_seen h_group f_edits f_total a_now a_history a_order a_row a_three) → va_S A s.heap H locs → lv_has ls 6 [(0, .ref h_this)] → W p l e (headSpec wsX10_loadConjugation rm_X10_loadConjugation).room s m args below meth c H locs 0 0 (MQ below (qn_QI G (fun (r : Int32) (u : Int32 × (Nat → Int32) × (Nat → Int32) × (Nat → Int32) × (Nat → Int32) × (Nat → Int32)) => post r u.1 u.2.1 u.2.2.1 u.2.2.2.1 u.2.2.2.2.1 u.2.2.2.2.2) (fun u : Int32 × (Nat → Int32) × (Nat → Int32) × (Nat → Int32) × (Nat → Int32) × (Nat → Int32) => wd_X10_loadConjugation G h_this h_now h_history h_over h_order h_colors h_row h_three h_seen h_group (u.1) f_total (u.2.1) (u.2.2.1) (u.2.2.2.1) (u.2.2.2.2.1) (u.2.2.2.2.2)) A) args s 0 0 A) (F0 m 55 ls [])) :
    ∀ (fu : Nat) (x1 : Int32) (a_order : Nat → Int32) (a_three : Nat → Int32), wp_X10_loadConjugation_L8 KL8 fu x1 a_order a_three → ∀ (H : Heap) (locs : List Loc) (ls : Array Slot), va_P G.1 vwCl (wd_X10_loadConjugation G h_this h_now h_history h_over h_order h_colors h_row h_three h_seen h_group f_edits f_total a_now a_history a_order a_row a_three) H → va_D A (wd_X10_loadConjugation G h_this h_now h_history h_over h_order h_colors h_row h_three h_seen h_group f_edits f_total a_now a_history a_order a_row a_three) → va_S A s.heap H locs → lv_has ls 6 [(0, .ref h_this), (1, .int x1)] → W p l e (headSpec wsX10_loadConjugation rm_X10_loadConjugation).room s m args below meth c H locs 0 0 (MQ below (qn_QI G (fun (r : Int32) (u : Int32 × (Nat → Int32) × (Nat → Int32) × (Nat → Int32) × (Nat → Int32) × (Nat → Int32)) => post r u.1 u.2.1 u.2.2.1 u.2.2.2.1 u.2.2.2.2.1 u.2.2.2.2.2) (fun u : Int32 × (Nat → Int32) × (Nat → Int32) × (Nat → Int32) × (Nat → Int32) × (Nat → Int32) => wd_X10_loadConjugation G h_this h_now h_history h_over h_order h_colors h_row h_three h_seen h_group (u.1) f_total (u.2.1) (u.2.2.1) (u.2.2.2.1) (u.2.2.2.2.1) (u.2.2.2.2.2)) A) args s 0 0 A) (F0 m 8 ls []) := by
  obtain ⟨hx, hb, hml, hown, hts, hr, hlocks⟩ := id C0
  intro fu
  induction fu with
  | zero => intro x1 a_order a_three hw; exact hw.elim
  | succ fu ih =>
    intro x1 a_order a_three hw H locs ls hP hD hS hl
    refine lv_iload_n hx hb dX10_loadConjugation_8 rfl (lv_at hl 1 rfl) ?_
    refine lv_bipush (v := 6) hx hb dX10_loadConjugation_9 (by decide) ?_
    refine lv_icmp_ge (tgt := 55) hx hb dX10_loadConjugation_11 (by decide) (fun c_5 => ?_) (fun c_5 => ?_)
    · have hw := hw.1 c_5
      exact hKc a_order a_three hw _ _ _ hP hD hS (lv_sub hl [0] rfl)
    · have hw := hw.2 c_5
      refine lv_aload_n hx hb dX10_loadConjugation_14 rfl (lv_at hl 0 rfl) ?_
      refine lv_iconst (v := 3) hx hb dX10_loadConjugation_15 (by decide) ?_
      refine lv_iload_n hx hb dX10_loadConjugation_16 rfl (lv_at hl 1 rfl) ?_
      have hC9 : ([0, 3]).map (fun i => (wd_X10_loadConjugation G h_this h_now h_history h_over h_order h_colors h_row h_three h_seen h_group f_edits f_total a_now a_history a_order a_row a_three)[i]?) = (wd_X10_unrank G h_this h_now h_history h_over h_order h_colors h_row h_three h_seen h_group f_edits f_total a_order).map some := rfl
      refine qn_callV (wd := (fun u : (Nat → Int32) => wd_X10_loadConjugation G h_this h_now h_history h_over h_order h_colors h_row h_three h_seen h_group f_edits f_total a_now a_history u a_row a_three)) [0, 3] (va_runV (As := [.int 3, .int x1]) (rest := []) ⟨hx, hb, hml, hown, hts⟩ (c_X10_unrank G _ h_this h_now h_history h_over h_order h_colors h_row h_three h_seen h_group f_edits f_total a_order 3 x1 hw) (cwV 2 hts gX10_loadConjugation_X10_unrank rfl rfl rfl (by decide +kernel) ⟨Nat.le_of_ble_eq_true rfl, Nat.le_of_ble_eq_true rfl⟩) (qn_preV hE hP hD [0, 3] hC9 (by decide +kernel) (ci := 10) rfl rfl) rfl rfl hl.1 rfl (lv_room (Nat.le_of_ble_eq_true rfl)) dX10_loadConjugation_17 ⟨Nat.le_of_ble_eq_true rfl, Nat.le_of_ble_eq_true rfl⟩) hP hD hS hA hC9 [some 0, none, none, some 1, none, none] (M := 6) rfl (by decide +kernel) (fun _ => rfl) (fun _ => rfl) (fun a_order_6 H locs hw hP hD hS => ?_)
      try dsimp only at hw
      have hP : va_P G.1 vwCl (wd_X10_loadConjugation G h_this h_now h_history h_over h_order h_colors h_row h_three h_seen h_group f_edits f_total a_now a_history a_order_6 a_row a_three) H := hP
      have hD : va_D A (wd_X10_loadConjugation G h_this h_now h_history h_over h_order h_colors h_row h_three h_seen h_group f_edits f_total a_now a_history a_order_6 a_row a_three) := hD
      refine lv_iconst (v := 0) hx hb dX10_loadConjugation_20 (by decide) ?_
      refine lv_istore_n (lv' := [(2, .int 0), (0, .ref h_this), (1, .int x1)]) hx hb dX10_loadConjugation_21 rfl hl (by decide) rfl (fun ls hl => ?_)
      obtain ⟨fu_12, hw⟩ := hw
      refine l_X10_loadConjugation_22 (post := post) C0 hE hA (fun a_three_10 hw H locs ls hP hD hS hl => ?_) fu_12 0 a_three hw _ _ _ hP hD hS (lv_sub hl [1, 2, 0] rfl)
      obtain ⟨x1_11, ex1_11⟩ : ∃ y : Int32, y = x1 + 1 := ⟨_, rfl⟩
      have hw := hw x1_11 ex1_11
      refine lv_iinc (v := x1_11) (lv' := [(1, .int x1_11), (0, .ref h_this)]) hx hb dX10_loadConjugation_49 hl (k := 1) rfl (by rw [ex1_11]; rfl) (by decide) rfl (fun ls hl => ?_)
      refine lv_goto (tgt := 8) hx hb dX10_loadConjugation_52 (by decide) ?_
      exact ih x1_11 a_order_6 a_three_10 hw _ _ _ hP hD hS (lv_sub hl [1, 0] rfl)
set_option maxHeartbeats 4000000 in
set_option maxRecDepth 100000 in
theorem l_X10_loadConjugation_102 {p : Program} {l : Launch} {e : Env} {s : State} {m : MethodId} {args : Array Value} {below : List Frame} {meth : Method} {c : Code} {G : qn_G} {A : Nat → Prop} {h_this h_now h_history h_over h_order h_colors h_row h_three h_seen h_group : Nat} {f_edits : Int32} {f_total : Int32} {a_now : Nat → Int32} {a_history : Nat → Int32} {a_order : Nat → Int32} {a_row : Nat → Int32} {a_three : Nat → Int32} {x1 : Int32} {x2 : Int32} {x3 : Int32} {x4 : Int32} {post : Int32 → Int32 → (Nat → Int32) → (Nat → Int32) → (Nat → Int32) → (Nat → Int32) → (Nat → Int32) → Prop} {KL102 : Int32 → Prop} (C0 : qn_C p m c cX10_loadConjugation 6 s args wsX10_loadConjugation RX10 meth (some .int)) (hE : qn_EV G s) (hA : ∀ q, s.heap.size ≤ q → A q) (hKc : ∀ (x5 : Int32), KL102 x5 → ∀ (H : Heap) (locs : List Loc) (ls : Array Slot), va_P G.1 vwCl (wd_X10_loadConjugation G h_this h_now h_history h_over h_order h_colors h_row h_three h_seen h_group f_edits f_total a_now a_history a_order a_row a_three) H → va_D A (wd_X10_loadConjugation G h_this h_now h_history h_over h_order h_colors h_row h_three h_seen h_group f_edits f_total a_now a_history a_order a_row a_three) → va_S A s.heap H locs → lv_has ls 6 [(0, .ref h_this), (1, .int x1), (2, .int x2), (3, .int x3), (5, .int x5)] → W p l e (headSpec wsX10_loadConjugation rm_X10_loadConjugation).room s m args below meth c H locs 0 0 (MQ below (qn_QI G (fun (r : Int32) (u : Int32 × (Nat → Int32) × (Nat → Int32) × (Nat → Int32) × (Nat → Int32) × (Nat → Int32)) => post r u.1 u.2.1 u.2.2.1 u.2.2.2.1 u.2.2.2.2.1 u.2.2.2.2.2) (fun u : Int32 × (Nat → Int32) × (Nat → Int32) × (Nat → Int32) × (Nat → Int32) × (Nat → Int32) => wd_X10_loadConjugation G h_this h_now h_history h_over h_order h_colors h_row h_three h_seen h_group (u.1) f_total (u.2.1) (u.2.2.1) (u.2.2.2.1) (u.2.2.2.2.1) (u.2.2.2.2.2)) A) args s 0 0 A) (F0 m 124 ls [])) :
    ∀ (fu : Nat) (x5 : Int32), wp_X10_loadConjugation_L102 KL102 x2 x4 a_three fu x5 → ∀ (H : Heap) (locs : List Loc) (ls : Array Slot), va_P G.1 vwCl (wd_X10_loadConjugation G h_this h_now h_history h_over h_order h_colors h_row h_three h_seen h_group f_edits f_total a_now a_history a_order a_row a_three) H → va_D A (wd_X10_loadConjugation G h_this h_now h_history h_over h_order h_colors h_row h_three h_seen h_group f_edits f_total a_now a_history a_order a_row a_three) → va_S A s.heap H locs → lv_has ls 6 [(0, .ref h_this), (1, .int x1), (2, .int x2), (3, .int x3), (4, .int x4), (5, .int x5)] → W p l e (headSpec wsX10_loadConjugation rm_X10_loadConjugation).room s m args below meth c H locs 0 0 (MQ below (qn_QI G (fun (r : Int32) (u : Int32 × (Nat → Int32) × (Nat → Int32) × (Nat → Int32) × (Nat → Int32) × (Nat → Int32)) => post r u.1 u.2.1 u.2.2.1 u.2.2.2.1 u.2.2.2.2.1 u.2.2.2.2.2) (fun u : Int32 × (Nat → Int32) × (Nat → Int32) × (Nat → Int32) × (Nat → Int32) × (Nat → Int32) => wd_X10_loadConjugation G h_this h_now h_history h_over h_order h_colors h_row h_three h_seen h_group (u.1) f_total (u.2.1) (u.2.2.1) (u.2.2.2.1) (u.2.2.2.2.1) (u.2.2.2.2.2)) A) args s 0 0 A) (F0 m 102 ls []) := by
  obtain ⟨hx, hb, hml, hown, hts, hr, hlocks⟩ := id C0
  intro fu
  induction fu with
  | zero => intro x5 hw; exact hw.elim
  | succ fu ih =>
    intro x5 hw H locs ls hP hD hS hl
    refine lv_aload_n hx hb dX10_loadConjugation_102 rfl (lv_at hl 0 rfl) ?_
    refine va_get (D := G.1) (ci := 10) (v := .ref h_three) (C := RX10) (T := TX10) (N := 11) hx hb hts in_X10_loadConjugation_X10 hown hE.1 hP 0 rfl rfl 8 (by decide) (hts (.fieldLink RX10 28 "QuandleColoringsModel" "three" "[I") lk_X10_loadConjugation_28) (fun _ h9 => h9) rfl dX10_loadConjugation_103 ?_
    refine lv_iconst (v := 3) hx hb dX10_loadConjugation_106 (by decide) ?_
    refine lv_iload_n hx hb dX10_loadConjugation_107 rfl (lv_at hl 2 rfl) ?_
    refine lv_imul hx hb dX10_loadConjugation_108 ?_
    refine lv_iload hx hb dX10_loadConjugation_109 (lv_at hl 5 rfl) ?_
    refine lv_iadd hx hb dX10_loadConjugation_111 ?_
    have hin := hw.1
    have hw := hw.2
    refine va_iald hx hb hE.1 hP 5 0 rfl rfl hin dX10_loadConjugation_112 ?_
    refine lv_iload hx hb dX10_loadConjugation_113 (lv_at hl 4 rfl) ?_
    refine lv_icmp_eq (tgt := 124) hx hb dX10_loadConjugation_115 (by decide) (fun c_19 => ?_) (fun c_19 => ?_)
    · have hw := hw.1 c_19
      exact hKc x5 hw _ _ _ hP hD hS (lv_sub hl [0, 1, 2, 3, 5] rfl)
    · have hw := hw.2 c_19
      obtain ⟨x5_20, ex5_20⟩ : ∃ y : Int32, y = x5 + 1 := ⟨_, rfl⟩
      have hw := hw x5_20 ex5_20
      refine lv_iinc (v := x5_20) (lv' := [(5, .int x5_20), (0, .ref h_this), (1, .int x1), (2, .int x2), (3, .int x3), (4, .int x4)]) hx hb dX10_loadConjugation_118 hl (k := 5) rfl (by rw [ex5_20]; rfl) (by decide) rfl (fun ls hl => ?_)
      refine lv_goto (tgt := 102) hx hb dX10_loadConjugation_121 (by decide) ?_
      exact ih x5_20 hw _ _ _ hP hD hS (lv_sub hl [1, 2, 3, 4, 5, 0] rfl)
set_option maxHeartbeats 4000000 in
set_option maxRecDepth 100000 in
theorem l_X10_loadConjugation_73 {p : Program} {l : Launch} {e : Env} {s : State} {m : MethodId} {args : Array Value} {below : List Frame} {meth : Method} {c : Code} {G : qn_G} {A : Nat → Prop} {h_this h_now h_history h_over h_order h_colors h_row h_three h_seen h_group : Nat} {f_edits : Int32} {f_total : Int32} {a_now : Nat → Int32} {a_history : Nat → Int32} {a_order : Nat → Int32} {a_three : Nat → Int32} {x1 : Int32} {x2 : Int32} {post : Int32 → Int32 → (Nat → Int32) → (Nat → Int32) → (Nat → Int32) → (Nat → Int32) → (Nat → Int32) → Prop} {KL73 : (Nat → Int32) → Prop} (C0 : qn_C p m c cX10_loadConjugation 6 s args wsX10_loadConjugation RX10 meth (some .int)) (hE : qn_EV G s) (hA : ∀ q, s.heap.size ≤ q → A q) (hKc : ∀ (a_row : Nat → Int32), KL73 a_row → ∀ (H : Heap) (locs : List Loc) (ls : Array Slot), va_P G.1 vwCl (wd_X10_loadConjugation G h_this h_now h_history h_over h_order h_colors h_row h_three h_seen h_group f_edits f_total a_now a_history a_order a_row a_three) H → va_D A (wd_X10_loadConjugation G h_this h_now h_history h_over h_order h_colors h_row h_three h_seen h_group f_edits f_total a_now a_history a_order a_row a_three) → va_S A s.heap H locs → lv_has ls 6 [(0, .ref h_this), (1, .int x1), (2, .int x2)] → W p l e (headSpec wsX10_loadConjugation rm_X10_loadConjugation).room s m args below meth c H locs 0 0 (MQ below (qn_QI G (fun (r : Int32) (u : Int32 × (Nat → Int32) × (Nat → Int32) × (Nat → Int32) × (Nat → Int32) × (Nat → Int32)) => post r u.1 u.2.1 u.2.2.1 u.2.2.2.1 u.2.2.2.2.1 u.2.2.2.2.2) (fun u : Int32 × (Nat → Int32) × (Nat → Int32) × (Nat → Int32) × (Nat → Int32) × (Nat → Int32) => wd_X10_loadConjugation G h_this h_now h_history h_over h_order h_colors h_row h_three h_seen h_group (u.1) f_total (u.2.1) (u.2.2.1) (u.2.2.2.1) (u.2.2.2.2.1) (u.2.2.2.2.2)) A) args s 0 0 A) (F0 m 138 ls [])) :
    ∀ (fu : Nat) (x3 : Int32) (a_row : Nat → Int32), wp_X10_loadConjugation_L73 KL73 x1 x2 a_three fu x3 a_row → ∀ (H : Heap) (locs : List Loc) (ls : Array Slot), va_P G.1 vwCl (wd_X10_loadConjugation G h_this h_now h_history h_over h_order h_colors h_row h_three h_seen h_group f_edits f_total a_now a_history a_order a_row a_three) H → va_D A (wd_X10_loadConjugation G h_this h_now h_history h_over h_order h_colors h_row h_three h_seen h_group f_edits f_total a_now a_history a_order a_row a_three) → va_S A s.heap H locs → lv_has ls 6 [(0, .ref h_this), (1, .int x1), (2, .int x2), (3, .int x3)] → W p l e (headSpec wsX10_loadConjugation rm_X10_loadConjugation).room s m args below meth c H locs 0 0 (MQ below (qn_QI G (fun (r : Int32) (u : Int32 × (Nat → Int32) × (Nat → Int32) × (Nat → Int32) × (Nat → Int32) × (Nat → Int32)) => post r u.1 u.2.1 u.2.2.1 u.2.2.2.1 u.2.2.2.2.1 u.2.2.2.2.2) (fun u : Int32 × (Nat → Int32) × (Nat → Int32) × (Nat → Int32) × (Nat → Int32) × (Nat → Int32) => wd_X10_loadConjugation G h_this h_now h_history h_over h_order h_colors h_row h_three h_seen h_group (u.1) f_total (u.2.1) (u.2.2.1) (u.2.2.2.1) (u.2.2.2.2.1) (u.2.2.2.2.2)) A) args s 0 0 A) (F0 m 73 ls []) := by
  obtain ⟨hx, hb, hml, hown, hts, hr, hlocks⟩ := id C0
  intro fu
  induction fu with
  | zero => intro x3 a_row hw; exact hw.elim
  | succ fu ih =>
    intro x3 a_row hw H locs ls hP hD hS hl
    refine lv_iload_n hx hb dX10_loadConjugation_73 rfl (lv_at hl 3 rfl) ?_
    refine lv_iconst (v := 3) hx hb dX10_loadConjugation_74 (by decide) ?_
    refine lv_icmp_ge (tgt := 138) hx hb dX10_loadConjugation_75 (by decide) (fun c_17 => ?_) (fun c_17 => ?_)
    · have hw := hw.1 c_17
      exact hKc a_row hw _ _ _ hP hD hS (lv_sub hl [0, 1, 2] rfl)
    · have hw := hw.2 c_17
      refine lv_aload_n hx hb dX10_loadConjugation_78 rfl (lv_at hl 0 rfl) ?_
      refine va_get (D := G.1) (ci := 10) (v := .ref h_three) (C := RX10) (T := TX10) (N := 11) hx hb hts in_X10_loadConjugation_X10 hown hE.1 hP 0 rfl rfl 8 (by decide) (hts (.fieldLink RX10 28 "QuandleColoringsModel" "three" "[I") lk_X10_loadConjugation_28) (fun _ h9 => h9) rfl dX10_loadConjugation_79 ?_
      refine lv_iconst (v := 3) hx hb dX10_loadConjugation_82 (by decide) ?_
      refine lv_iload_n hx hb dX10_loadConjugation_83 rfl (lv_at hl 1 rfl) ?_
      refine lv_imul hx hb dX10_loadConjugation_84 ?_
      refine lv_aload_n hx hb dX10_loadConjugation_85 rfl (lv_at hl 0 rfl) ?_
      refine va_get (D := G.1) (ci := 10) (v := .ref h_three) (C := RX10) (T := TX10) (N := 11) hx hb hts in_X10_loadConjugation_X10 hown hE.1 hP 0 rfl rfl 8 (by decide) (hts (.fieldLink RX10 28 "QuandleColoringsModel" "three" "[I") lk_X10_loadConjugation_28) (fun _ h9 => h9) rfl dX10_loadConjugation_86 ?_
      refine lv_iconst (v := 3) hx hb dX10_loadConjugation_89 (by decide) ?_
      refine lv_iload_n hx hb dX10_loadConjugation_90 rfl (lv_at hl 2 rfl) ?_
      refine lv_imul hx hb dX10_loadConjugation_91 ?_
      refine lv_iload_n hx hb dX10_loadConjugation_92 rfl (lv_at hl 3 rfl) ?_
      refine lv_iadd hx hb dX10_loadConjugation_93 ?_
      have hin := hw.1
      have hw := hw.2
      refine va_iald hx hb hE.1 hP 5 0 rfl rfl hin dX10_loadConjugation_94 ?_
      refine lv_iadd hx hb dX10_loadConjugation_95 ?_
      have hin := hw.1
      have hw := hw.2
      refine va_iald hx hb hE.1 hP 5 0 rfl rfl hin dX10_loadConjugation_96 ?_
      refine lv_topi (fun x4_18 ex4_18 => ?_)
      have hw := hw x4_18 ex4_18
      refine lv_istore (lv' := [(4, .int x4_18), (0, .ref h_this), (1, .int x1), (2, .int x2), (3, .int x3)]) hx hb dX10_loadConjugation_97 hl (by decide) rfl (fun ls hl => ?_)
      refine lv_iconst (v := 0) hx hb dX10_loadConjugation_99 (by decide) ?_
      refine lv_istore (lv' := [(5, .int 0), (4, .int x4_18), (0, .ref h_this), (1, .int x1), (2, .int x2), (3, .int x3)]) hx hb dX10_loadConjugation_100 hl (by decide) rfl (fun ls hl => ?_)
      obtain ⟨fu_24, hw⟩ := hw
      refine l_X10_loadConjugation_102 (post := post) C0 hE hA (fun x5_21 hw H locs ls hP hD hS hl => ?_) fu_24 0 hw _ _ _ hP hD hS (lv_sub hl [2, 3, 4, 5, 1, 0] rfl)
      refine lv_aload_n hx hb dX10_loadConjugation_124 rfl (lv_at hl 0 rfl) ?_
      refine va_get (D := G.1) (ci := 10) (v := .ref h_row) (C := RX10) (T := TX10) (N := 11) hx hb hts in_X10_loadConjugation_X10 hown hE.1 hP 0 rfl rfl 7 (by decide) (hts (.fieldLink RX10 25 "QuandleColoringsModel" "row" "[I") lk_X10_loadConjugation_25) (fun _ h9 => h9) rfl dX10_loadConjugation_125 ?_
      refine lv_iload_n hx hb dX10_loadConjugation_128 rfl (lv_at hl 3 rfl) ?_
      refine lv_iload hx hb dX10_loadConjugation_129 (lv_at hl 4 rfl) ?_
      have hin := hw.1
      have hw := hw.2
      obtain ⟨a_row_22, ea_row_22⟩ : ∃ y : Nat → Int32, y = upd a_row x3.toNatClampNeg x5_21 := ⟨_, rfl⟩
      have hw := hw a_row_22 ea_row_22
      refine va_iast hx hb hE.1 hP hD hS 4 0 rfl rfl hin dX10_loadConjugation_131 (fun H locs hP hD hS => ?_)
      rw [← ea_row_22] at hP hD
      have hP : va_P G.1 vwCl (wd_X10_loadConjugation G h_this h_now h_history h_over h_order h_colors h_row h_three h_seen h_group f_edits f_total a_now a_history a_order a_row_22 a_three) H := hP
      have hD : va_D A (wd_X10_loadConjugation G h_this h_now h_history h_over h_order h_colors h_row h_three h_seen h_group f_edits f_total a_now a_history a_order a_row_22 a_three) := hD
      obtain ⟨x3_23, ex3_23⟩ : ∃ y : Int32, y = x3 + 1 := ⟨_, rfl⟩
      have hw := hw x3_23 ex3_23
      refine lv_iinc (v := x3_23) (lv' := [(3, .int x3_23), (0, .ref h_this), (1, .int x1), (2, .int x2), (5, .int x5_21)]) hx hb dX10_loadConjugation_132 hl (k := 3) rfl (by rw [ex3_23]; rfl) (by decide) rfl (fun ls hl => ?_)
      refine lv_goto (tgt := 73) hx hb dX10_loadConjugation_135 (by decide) ?_
      exact ih x3_23 a_row_22 hw _ _ _ hP hD hS (lv_sub hl [1, 2, 3, 0] rfl)
set_option maxHeartbeats 4000000 in
set_option maxRecDepth 100000 in
theorem l_X10_loadConjugation_65 {p : Program} {l : Launch} {e : Env} {s : State} {m : MethodId} {args : Array Value} {below : List Frame} {meth : Method} {c : Code} {G : qn_G} {A : Nat → Prop} {h_this h_now h_history h_over h_order h_colors h_row h_three h_seen h_group : Nat} {f_edits : Int32} {f_total : Int32} {a_history : Nat → Int32} {a_order : Nat → Int32} {a_three : Nat → Int32} {x1 : Int32} {post : Int32 → Int32 → (Nat → Int32) → (Nat → Int32) → (Nat → Int32) → (Nat → Int32) → (Nat → Int32) → Prop} {KL65 : (Nat → Int32) → (Nat → Int32) → Prop} (C0 : qn_C p m c cX10_loadConjugation 6 s args wsX10_loadConjugation RX10 meth (some .int)) (hE : qn_EV G s) (hA : ∀ q, s.heap.size ≤ q → A q) (hKc : ∀ (a_now : Nat → Int32) (a_row : Nat → Int32), KL65 a_now a_row → ∀ (H : Heap) (locs : List Loc) (ls : Array Slot), va_P G.1 vwCl (wd_X10_loadConjugation G h_this h_now h_history h_over h_order h_colors h_row h_three h_seen h_group f_edits f_total a_now a_history a_order a_row a_three) H → va_D A (wd_X10_loadConjugation G h_this h_now h_history h_over h_order h_colors h_row h_three h_seen h_group f_edits f_total a_now a_history a_order a_row a_three) → va_S A s.heap H locs → lv_has ls 6 [(0, .ref h_this), (1, .int x1)] → W p l e (headSpec wsX10_loadConjugation rm_X10_loadConjugation).room s m args below meth c H locs 0 0 (MQ below (qn_QI G (fun (r : Int32) (u : Int32 × (Nat → Int32) × (Nat → Int32) × (Nat → Int32) × (Nat → Int32) × (Nat → Int32)) => post r u.1 u.2.1 u.2.2.1 u.2.2.2.1 u.2.2.2.2.1 u.2.2.2.2.2) (fun u : Int32 × (Nat → Int32) × (Nat → Int32) × (Nat → Int32) × (Nat → Int32) × (Nat → Int32) => wd_X10_loadConjugation G h_this h_now h_history h_over h_order h_colors h_row h_three h_seen h_group (u.1) f_total (u.2.1) (u.2.2.1) (u.2.2.2.1) (u.2.2.2.2.1) (u.2.2.2.2.2)) A) args s 0 0 A) (F0 m 160 ls [])) :
    ∀ (fu : Nat) (x2 : Int32) (a_now : Nat → Int32) (a_row : Nat → Int32), wp_X10_loadConjugation_L65 KL65 x1 a_three fu x2 a_now a_row → ∀ (H : Heap) (locs : List Loc) (ls : Array Slot), va_P G.1 vwCl (wd_X10_loadConjugation G h_this h_now h_history h_over h_order h_colors h_row h_three h_seen h_group f_edits f_total a_now a_history a_order a_row a_three) H → va_D A (wd_X10_loadConjugation G h_this h_now h_history h_over h_order h_colors h_row h_three h_seen h_group f_edits f_total a_now a_history a_order a_row a_three) → va_S A s.heap H locs → lv_has ls 6 [(0, .ref h_this), (1, .int x1), (2, .int x2)] → W p l e (headSpec wsX10_loadConjugation rm_X10_loadConjugation).room s m args below meth c H locs 0 0 (MQ below (qn_QI G (fun (r : Int32) (u : Int32 × (Nat → Int32) × (Nat → Int32) × (Nat → Int32) × (Nat → Int32) × (Nat → Int32)) => post r u.1 u.2.1 u.2.2.1 u.2.2.2.1 u.2.2.2.2.1 u.2.2.2.2.2) (fun u : Int32 × (Nat → Int32) × (Nat → Int32) × (Nat → Int32) × (Nat → Int32) × (Nat → Int32) => wd_X10_loadConjugation G h_this h_now h_history h_over h_order h_colors h_row h_three h_seen h_group (u.1) f_total (u.2.1) (u.2.2.1) (u.2.2.2.1) (u.2.2.2.2.1) (u.2.2.2.2.2)) A) args s 0 0 A) (F0 m 65 ls []) := by
  obtain ⟨hx, hb, hml, hown, hts, hr, hlocks⟩ := id C0
  intro fu
  induction fu with
  | zero => intro x2 a_now a_row hw; exact hw.elim
  | succ fu ih =>
    intro x2 a_now a_row hw H locs ls hP hD hS hl
    refine lv_iload_n hx hb dX10_loadConjugation_65 rfl (lv_at hl 2 rfl) ?_
    refine lv_bipush (v := 6) hx hb dX10_loadConjugation_66 (by decide) ?_
    refine lv_icmp_ge (tgt := 160) hx hb dX10_loadConjugation_68 (by decide) (fun c_16 => ?_) (fun c_16 => ?_)
    · have hw := hw.1 c_16
      exact hKc a_now a_row hw _ _ _ hP hD hS (lv_sub hl [0, 1] rfl)
    · have hw := hw.2 c_16
      refine lv_iconst (v := 0) hx hb dX10_loadConjugation_71 (by decide) ?_
      refine lv_istore_n (lv' := [(3, .int 0), (0, .ref h_this), (1, .int x1), (2, .int x2)]) hx hb dX10_loadConjugation_72 rfl hl (by decide) rfl (fun ls hl => ?_)
      obtain ⟨fu_29, hw⟩ := hw
      refine l_X10_loadConjugation_73 (post := post) C0 hE hA (fun a_row_25 hw H locs ls hP hD hS hl => ?_) fu_29 0 a_row hw _ _ _ hP hD hS (lv_sub hl [1, 2, 3, 0] rfl)
      refine lv_aload_n hx hb dX10_loadConjugation_138 rfl (lv_at hl 0 rfl) ?_
      refine va_get (D := G.1) (ci := 10) (v := .ref h_now) (C := RX10) (T := TX10) (N := 11) hx hb hts in_X10_loadConjugation_X10 hown hE.1 hP 0 rfl rfl 0 (by decide) (hts (.fieldLink RX10 7 "QuandleColoringsModel" "now" "[I") lk_X10_loadConjugation_7) (fun _ h9 => h9) rfl dX10_loadConjugation_139 ?_
      refine lv_bipush (v := 6) hx hb dX10_loadConjugation_142 (by decide) ?_
      refine lv_iload_n hx hb dX10_loadConjugation_144 rfl (lv_at hl 1 rfl) ?_
      refine lv_imul hx hb dX10_loadConjugation_145 ?_
      refine lv_iload_n hx hb dX10_loadConjugation_146 rfl (lv_at hl 2 rfl) ?_
      refine lv_iadd hx hb dX10_loadConjugation_147 ?_
      refine lv_aload_n hx hb dX10_loadConjugation_148 rfl (lv_at hl 0 rfl) ?_
      refine lv_iconst (v := 3) hx hb dX10_loadConjugation_149 (by decide) ?_
      have hC9 : ([0, 4]).map (fun i => (wd_X10_loadConjugation G h_this h_now h_history h_over h_order h_colors h_row h_three h_seen h_group f_edits f_total a_now a_history a_order a_row_25 a_three)[i]?) = (wd_X10_rank G h_this h_now h_history h_over h_order h_colors h_row h_three h_seen h_group f_edits f_total a_row_25).map some := rfl
      refine qn_callI (wd := (fun u : Unit => wd_X10_loadConjugation G h_this h_now h_history h_over h_order h_colors h_row h_three h_seen h_group f_edits f_total a_now a_history a_order a_row_25 a_three)) [0, 4] (va_runV (As := [.int 3]) (rest := [.int ((6 * x1) + x2), .ref h_now]) ⟨hx, hb, hml, hown, hts⟩ (c_X10_rank G _ h_this h_now h_history h_over h_order h_colors h_row h_three h_seen h_group f_edits f_total a_row_25 3 hw) (cwV 1 hts gX10_loadConjugation_X10_rank rfl rfl rfl (by decide +kernel) ⟨Nat.le_of_ble_eq_true rfl, Nat.le_of_ble_eq_true rfl⟩) (qn_preV hE hP hD [0, 4] hC9 (by decide +kernel) (ci := 10) rfl rfl) rfl rfl hl.1 rfl (lv_room (Nat.le_of_ble_eq_true rfl)) dX10_loadConjugation_150 ⟨Nat.le_of_ble_eq_true rfl, Nat.le_of_ble_eq_true rfl⟩) hP hD hS hA hC9 [some 0, none, none, none, some 1, none] (M := 6) rfl (by decide +kernel) (fun _ => rfl) (fun _ => rfl) (fun r_26 _ H locs hw hP hD hS => ?_)
      try dsimp only at hw
      have hP : va_P G.1 vwCl (wd_X10_loadConjugation G h_this h_now h_history h_over h_order h_colors h_row h_three h_seen h_group f_edits f_total a_now a_history a_order a_row_25 a_three) H := hP
      have hD : va_D A (wd_X10_loadConjugation G h_this h_now h_history h_over h_order h_colors h_row h_three h_seen h_group f_edits f_total a_now a_history a_order a_row_25 a_three) := hD
      have hin := hw.1
      have hw := hw.2
      obtain ⟨a_now_27, ea_now_27⟩ : ∃ y : Nat → Int32, y = upd a_now ((6 * x1) + x2).toNatClampNeg r_26 := ⟨_, rfl⟩
      have hw := hw a_now_27 ea_now_27
      refine va_iast hx hb hE.1 hP hD hS 1 0 rfl rfl hin dX10_loadConjugation_153 (fun H locs hP hD hS => ?_)
      rw [← ea_now_27] at hP hD
      have hP : va_P G.1 vwCl (wd_X10_loadConjugation G h_this h_now h_history h_over h_order h_colors h_row h_three h_seen h_group f_edits f_total a_now_27 a_history a_order a_row_25 a_three) H := hP
      have hD : va_D A (wd_X10_loadConjugation G h_this h_now h_history h_over h_order h_colors h_row h_three h_seen h_group f_edits f_total a_now_27 a_history a_order a_row_25 a_three) := hD
      obtain ⟨x2_28, ex2_28⟩ : ∃ y : Int32, y = x2 + 1 := ⟨_, rfl⟩
      have hw := hw x2_28 ex2_28
      refine lv_iinc (v := x2_28) (lv' := [(2, .int x2_28), (0, .ref h_this), (1, .int x1)]) hx hb dX10_loadConjugation_154 hl (k := 2) rfl (by rw [ex2_28]; rfl) (by decide) rfl (fun ls hl => ?_)
      refine lv_goto (tgt := 65) hx hb dX10_loadConjugation_157 (by decide) ?_
      exact ih x2_28 a_now_27 a_row_25 hw _ _ _ hP hD hS (lv_sub hl [1, 2, 0] rfl)
set_option maxHeartbeats 4000000 in
set_option maxRecDepth 100000 in
theorem l_X10_loadConjugation_57 {p : Program} {l : Launch} {e : Env} {s : State} {m : MethodId} {args : Array Value} {below : List Frame} {meth : Method} {c : Code} {G : qn_G} {A : Nat → Prop} {h_this h_now h_history h_over h_order h_colors h_row h_three h_seen h_group : Nat} {f_edits : Int32} {f_total : Int32} {a_history : Nat → Int32} {a_order : Nat → Int32} {a_three : Nat → Int32} {post : Int32 → Int32 → (Nat → Int32) → (Nat → Int32) → (Nat → Int32) → (Nat → Int32) → (Nat → Int32) → Prop} {KL57 : (Nat → Int32) → (Nat → Int32) → Prop} (C0 : qn_C p m c cX10_loadConjugation 6 s args wsX10_loadConjugation RX10 meth (some .int)) (hE : qn_EV G s) (hA : ∀ q, s.heap.size ≤ q → A q) (hKc : ∀ (a_now : Nat → Int32) (a_row : Nat → Int32), KL57 a_now a_row → ∀ (H : Heap) (locs : List Loc) (ls : Array Slot), va_P G.1 vwCl (wd_X10_loadConjugation G h_this h_now h_history h_over h_order h_colors h_row h_three h_seen h_group f_edits f_total a_now a_history a_order a_row a_three) H → va_D A (wd_X10_loadConjugation G h_this h_now h_history h_over h_order h_colors h_row h_three h_seen h_group f_edits f_total a_now a_history a_order a_row a_three) → va_S A s.heap H locs → lv_has ls 6 [] → W p l e (headSpec wsX10_loadConjugation rm_X10_loadConjugation).room s m args below meth c H locs 0 0 (MQ below (qn_QI G (fun (r : Int32) (u : Int32 × (Nat → Int32) × (Nat → Int32) × (Nat → Int32) × (Nat → Int32) × (Nat → Int32)) => post r u.1 u.2.1 u.2.2.1 u.2.2.2.1 u.2.2.2.2.1 u.2.2.2.2.2) (fun u : Int32 × (Nat → Int32) × (Nat → Int32) × (Nat → Int32) × (Nat → Int32) × (Nat → Int32) => wd_X10_loadConjugation G h_this h_now h_history h_over h_order h_colors h_row h_three h_seen h_group (u.1) f_total (u.2.1) (u.2.2.1) (u.2.2.2.1) (u.2.2.2.2.1) (u.2.2.2.2.2)) A) args s 0 0 A) (F0 m 166 ls [])) :
    ∀ (fu : Nat) (x1 : Int32) (a_now : Nat → Int32) (a_row : Nat → Int32), wp_X10_loadConjugation_L57 KL57 a_three fu x1 a_now a_row → ∀ (H : Heap) (locs : List Loc) (ls : Array Slot), va_P G.1 vwCl (wd_X10_loadConjugation G h_this h_now h_history h_over h_order h_colors h_row h_three h_seen h_group f_edits f_total a_now a_history a_order a_row a_three) H → va_D A (wd_X10_loadConjugation G h_this h_now h_history h_over h_order h_colors h_row h_three h_seen h_group f_edits f_total a_now a_history a_order a_row a_three) → va_S A s.heap H locs → lv_has ls 6 [(0, .ref h_this), (1, .int x1)] → W p l e (headSpec wsX10_loadConjugation rm_X10_loadConjugation).room s m args below meth c H locs 0 0 (MQ below (qn_QI G (fun (r : Int32) (u : Int32 × (Nat → Int32) × (Nat → Int32) × (Nat → Int32) × (Nat → Int32) × (Nat → Int32)) => post r u.1 u.2.1 u.2.2.1 u.2.2.2.1 u.2.2.2.2.1 u.2.2.2.2.2) (fun u : Int32 × (Nat → Int32) × (Nat → Int32) × (Nat → Int32) × (Nat → Int32) × (Nat → Int32) => wd_X10_loadConjugation G h_this h_now h_history h_over h_order h_colors h_row h_three h_seen h_group (u.1) f_total (u.2.1) (u.2.2.1) (u.2.2.2.1) (u.2.2.2.2.1) (u.2.2.2.2.2)) A) args s 0 0 A) (F0 m 57 ls []) := by
  obtain ⟨hx, hb, hml, hown, hts, hr, hlocks⟩ := id C0
  intro fu
  induction fu with
  | zero => intro x1 a_now a_row hw; exact hw.elim
  | succ fu ih =>
    intro x1 a_now a_row hw H locs ls hP hD hS hl
    refine lv_iload_n hx hb dX10_loadConjugation_57 rfl (lv_at hl 1 rfl) ?_
    refine lv_bipush (v := 6) hx hb dX10_loadConjugation_58 (by decide) ?_
    refine lv_icmp_ge (tgt := 166) hx hb dX10_loadConjugation_60 (by decide) (fun c_15 => ?_) (fun c_15 => ?_)
    · have hw := hw.1 c_15
      exact hKc a_now a_row hw _ _ _ hP hD hS (lv_sub hl [] rfl)
    · have hw := hw.2 c_15
      refine lv_iconst (v := 0) hx hb dX10_loadConjugation_63 (by decide) ?_
      refine lv_istore_n (lv' := [(2, .int 0), (0, .ref h_this), (1, .int x1)]) hx hb dX10_loadConjugation_64 rfl hl (by decide) rfl (fun ls hl => ?_)
      obtain ⟨fu_33, hw⟩ := hw
      refine l_X10_loadConjugation_65 (post := post) C0 hE hA (fun a_now_30 a_row_31 hw H locs ls hP hD hS hl => ?_) fu_33 0 a_now a_row hw _ _ _ hP hD hS (lv_sub hl [1, 2, 0] rfl)
      obtain ⟨x1_32, ex1_32⟩ : ∃ y : Int32, y = x1 + 1 := ⟨_, rfl⟩
      have hw := hw x1_32 ex1_32
      refine lv_iinc (v := x1_32) (lv' := [(1, .int x1_32), (0, .ref h_this)]) hx hb dX10_loadConjugation_160 hl (k := 1) rfl (by rw [ex1_32]; rfl) (by decide) rfl (fun ls hl => ?_)
      refine lv_goto (tgt := 57) hx hb dX10_loadConjugation_163 (by decide) ?_
      exact ih x1_32 a_now_30 a_row_31 hw _ _ _ hP hD hS (lv_sub hl [1, 0] rfl)
set_option maxHeartbeats 4000000 in
set_option maxRecDepth 100000 in
theorem c_X10_loadConjugation {l : Launch} (G : qn_G) (sz : Nat) (h_this h_now h_history h_over h_order h_colors h_row h_three h_seen h_group : Nat) (f_edits : Int32) (f_total : Int32) (a_now : Nat → Int32) (a_history : Nat → Int32) (a_order : Nat → Int32) (a_row : Nat → Int32) (a_three : Nat → Int32) {post : Int32 → Int32 → (Nat → Int32) → (Nat → Int32) → (Nat → Int32) → (Nat → Int32) → (Nat → Int32) → Prop} (hw : wp_X10_loadConjugation post f_edits a_now a_history a_order a_row a_three) : Met l yX10_loadConjugation wsX10_loadConjugation rm_X10_loadConjugation (qn_PC G [.ref h_this] sz (wd_X10_loadConjugation G h_this h_now h_history h_over h_order h_colors h_row h_three h_seen h_group f_edits f_total a_now a_history a_order a_row a_three)) (qn_QI G (fun (r : Int32) (u : Int32 × (Nat → Int32) × (Nat → Int32) × (Nat → Int32) × (Nat → Int32) × (Nat → Int32)) => post r u.1 u.2.1 u.2.2.1 u.2.2.2.1 u.2.2.2.2.1 u.2.2.2.2.2) (fun u : Int32 × (Nat → Int32) × (Nat → Int32) × (Nat → Int32) × (Nat → Int32) × (Nat → Int32) => wd_X10_loadConjugation G h_this h_now h_history h_over h_order h_colors h_row h_three h_seen h_group (u.1) f_total (u.2.1) (u.2.2.1) (u.2.2.2.1) (u.2.2.2.2.1) (u.2.2.2.2.2)) (va_A (wd_X10_loadConjugation G h_this h_now h_history h_over h_order h_colors h_row h_three h_seen h_group f_edits f_total a_now a_history a_order a_row a_three) sz)) 0 0 (va_A (wd_X10_loadConjugation G h_this h_now h_history h_over h_order h_colors h_row h_three h_seen h_group f_edits f_total a_now a_history a_order a_row a_three) sz) := by
  refine Met.ofW (cc := cX10_loadConjugation) (maxL := 6) (ret := (some .int)) (by decide) rfl ?_
  intro p e s m args below meth c s₁ B hml hv
  obtain ⟨rfl, hsz, hP, hE, hD0⟩ := hv
  have C0 : qn_C p m c cX10_loadConjugation 6 s _ wsX10_loadConjugation RX10 meth (some .int) := qn_C0 B hml
  obtain ⟨hx, hb, -, hown, hts, hr, hlocks⟩ := id C0
  subst hsz
  have hD := hD0.self (sz := s.heap.size)
  generalize hAe : va_A (wd_X10_loadConjugation G h_this h_now h_history h_over h_order h_colors h_row h_three h_seen h_group f_edits f_total a_now a_history a_order a_row a_three) s.heap.size = A at hD ⊢
  have hA : ∀ q : Nat, s.heap.size ≤ q → A q := fun q h => by rw [← hAe]; exact Or.inr h
  clear hAe
  have hS : va_S A s.heap s.heap [] := va_S.rf
  have hl := lv_entry ([.ref h_this]) (n := 6) (Nat.le_of_ble_eq_true rfl)
  rw [lg_entry_eq]
  generalize (lg_sl ([.ref h_this]) ++ List.replicate (6 - (lg_sl ([.ref h_this])).length) Slot.unset).toArray = ls at hl ⊢
  have hl : lv_has ls 6 [(0, .ref h_this)] := hl
  have hP : va_P G.1 vwCl (wd_X10_loadConjugation G h_this h_now h_history h_over h_order h_colors h_row h_three h_seen h_group f_edits f_total a_now a_history a_order a_row a_three) s.heap := hP
  refine lv_aload_n hx hb dX10_loadConjugation_0 rfl (lv_at hl 0 rfl) ?_
  refine lv_bipush (v := 6) hx hb dX10_loadConjugation_1 (by decide) ?_
  have hC9 : ([0, 1, 2]).map (fun i => (wd_X10_loadConjugation G h_this h_now h_history h_over h_order h_colors h_row h_three h_seen h_group f_edits f_total a_now a_history a_order a_row a_three)[i]?) = (wd_X10_loads G h_this h_now h_history h_over h_order h_colors h_row h_three h_seen h_group f_edits f_total a_now a_history).map some := rfl
  refine qn_callV (wd := (fun u : Int32 × (Nat → Int32) × (Nat → Int32) => wd_X10_loadConjugation G h_this h_now h_history h_over h_order h_colors h_row h_three h_seen h_group (u.1) f_total (u.2.1) (u.2.2) a_order a_row a_three)) [0, 1, 2] (va_runV (As := [.int 6]) (rest := []) ⟨hx, hb, hml, hown, hts⟩ (c_X10_loads G _ h_this h_now h_history h_over h_order h_colors h_row h_three h_seen h_group f_edits f_total a_now a_history 6 hw) (cwV 1 hts gX10_loadConjugation_X10_loads rfl rfl rfl (by decide +kernel) ⟨Nat.le_of_ble_eq_true rfl, Nat.le_of_ble_eq_true rfl⟩) (qn_preV hE hP hD [0, 1, 2] hC9 (by decide +kernel) (ci := 10) rfl rfl) rfl rfl hl.1 rfl (lv_room (Nat.le_of_ble_eq_true rfl)) dX10_loadConjugation_3 ⟨Nat.le_of_ble_eq_true rfl, Nat.le_of_ble_eq_true rfl⟩) hP hD hS hA hC9 [some 0, some 1, some 2, none, none, none] (M := 6) rfl (by decide +kernel) (fun _ => rfl) (fun _ => rfl) (fun u_4 H locs hw hP hD hS => ?_)
  obtain ⟨f_edits_1, a_now_2, a_history_3⟩ := u_4
  try dsimp only at hw
  have hP : va_P G.1 vwCl (wd_X10_loadConjugation G h_this h_now h_history h_over h_order h_colors h_row h_three h_seen h_group f_edits_1 f_total a_now_2 a_history_3 a_order a_row a_three) H := hP
  have hD : va_D A (wd_X10_loadConjugation G h_this h_now h_history h_over h_order h_colors h_row h_three h_seen h_group f_edits_1 f_total a_now_2 a_history_3 a_order a_row a_three) := hD
  refine lv_iconst (v := 0) hx hb dX10_loadConjugation_6 (by decide) ?_
  refine lv_istore_n (lv' := [(1, .int 0), (0, .ref h_this)]) hx hb dX10_loadConjugation_7 rfl hl (by decide) rfl (fun ls hl => ?_)
  obtain ⟨fu_37, hw⟩ := hw
  refine l_X10_loadConjugation_8 (post := post) C0 hE hA (fun a_order_13 a_three_14 hw H locs ls hP hD hS hl => ?_) fu_37 0 a_order a_three hw _ _ _ hP hD hS (lv_sub hl [1, 0] rfl)
  refine lv_iconst (v := 0) hx hb dX10_loadConjugation_55 (by decide) ?_
  refine lv_istore_n (lv' := [(1, .int 0), (0, .ref h_this)]) hx hb dX10_loadConjugation_56 rfl hl (by decide) rfl (fun ls hl => ?_)
  obtain ⟨fu_36, hw⟩ := hw
  refine l_X10_loadConjugation_57 (post := post) C0 hE hA (fun a_now_34 a_row_35 hw H locs ls hP hD hS hl => ?_) fu_36 0 a_now_2 a_row hw _ _ _ hP hD hS (lv_sub hl [1, 0] rfl)
  refine lv_bipush (v := 6) hx hb dX10_loadConjugation_166 (by decide) ?_
  exact W.iret (v := 6) hx hb hr (fun t ht hW => ⟨⟨6, (f_edits_1, a_now_34, a_history_3, a_order_13, a_row_35, a_three_14), rfl, hw, by rw [ht]; exact hP, hD⟩, hS.F ht⟩) hS.2.2 dX10_loadConjugation_168
-- QuandleColoringsModel.loadCyclicRack(I)I
abbrev rm_X10_loadCyclicRack : Room := { frames := 2, cells := 0, slots := 0, locals := 43 }
abbrev wd_X10_loadCyclicRack (G : qn_G) (h_this h_now h_history h_over h_order h_colors h_row h_three h_seen h_group : Nat) (f_edits : Int32) (f_total : Int32) (a_now : Nat → Int32) (a_history : Nat → Int32) : va_W := [(h_this, .inr (10, [.ref h_now, .ref h_history, .int f_edits, .ref h_over, .ref h_order, .ref h_colors, .int f_total, .ref h_row, .ref h_three, .ref h_seen, .ref h_group])), (h_now, .inl (G.2.1, 88, .inl a_now)), (h_history, .inl (G.2.1, 440, .inl a_history))]
theorem in_X10_loadCyclicRack_X10 : ∀ w ∈ u_ws RX10 TX10 11, w ∈ wsX10_loadCyclicRack := by decide +kernel
theorem lk_X10_loadCyclicRack_7 : Cond.fieldLink RX10 7 "QuandleColoringsModel" "now" "[I" ∈ wsX10_loadCyclicRack := by decide +kernel
def wp_X10_loadCyclicRack_L26 (KL26 : (Nat → Int32) → Prop) (x1 : Int32) (x2 : Int32) : Nat → Int32 → (Nat → Int32) → Prop
  | 0 => fun _ _ => False
  | fu + 1 => fun x3 a_now => ((x1 ≤ x3 → (KL26 a_now)) ∧ (¬ x1 ≤ x3 → (¬ x1 = 0 ∧ (∀ z_9 : Int32, z_9 = (x2 + 1) - (x2 + 1) / x1 * x1 → (vp_in ((6 * x2) + x3) 88 ∧ (∀ a_now_10 : Nat → Int32, a_now_10 = upd a_now ((6 * x2) + x3).toNatClampNeg z_9 → (∀ x3_11 : Int32, x3_11 = x3 + 1 → ((wp_X10_loadCyclicRack_L26 KL26 x1 x2 fu) x3_11 a_now_10))))))))
def wp_X10_loadCyclicRack_L19 (KL19 : (Nat → Int32) → Prop) (x1 : Int32) : Nat → Int32 → (Nat → Int32) → Prop
  | 0 => fun _ _ => False
  | fu + 1 => fun x2 a_now => ((x1 ≤ x2 → (KL19 a_now)) ∧ (¬ x1 ≤ x2 → (∃ fu_14 : Nat, wp_X10_loadCyclicRack_L26 (fun (a_now_12 : Nat → Int32) => (∀ x2_13 : Int32, x2_13 = x2 + 1 → ((wp_X10_loadCyclicRack_L19 KL19 x1 fu) x2_13 a_now_12))) x1 x2 fu_14 0 a_now)))
def wp_X10_loadCyclicRack (post : Int32 → Int32 → (Nat → Int32) → (Nat → Int32) → Prop) (f_edits : Int32) (a_now : Nat → Int32) (a_history : Nat → Int32) (x1 : Int32) : Prop := (wp_X10_in (fun (r_1 : Int32) => ((¬ r_1 = 0 → (wp_X10_loads (fun (f_edits_3 : Int32) (a_now_4 : Nat → Int32) (a_history_5 : Nat → Int32) => (∃ fu_16 : Nat, wp_X10_loadCyclicRack_L19 (fun (a_now_15 : Nat → Int32) => (post x1 f_edits_3 a_now_15 a_history_5)) x1 fu_16 0 a_now_4)) f_edits a_now a_history x1)) ∧ (r_1 = 0 → (post (-1) f_edits a_now a_history)))) x1 1 6)
set_option maxHeartbeats 4000000 in
set_option maxRecDepth 100000 in
theorem l_X10_loadCyclicRack_26 {p : Program} {l : Launch} {e : Env} {s : State} {m : MethodId} {args : Array Value} {below : List Frame} {meth : Method} {c : Code} {G : qn_G} {A : Nat → Prop} {h_this h_now h_history h_over h_order h_colors h_row h_three h_seen h_group : Nat} {f_edits : Int32} {f_total : Int32} {a_history : Nat → Int32} {x1 : Int32} {x2 : Int32} {post : Int32 → Int32 → (Nat → Int32) → (Nat → Int32) → Prop} {KL26 : (Nat → Int32) → Prop} (C0 : qn_C p m c cX10_loadCyclicRack 4 s args wsX10_loadCyclicRack RX10 meth (some .int)) (hE : qn_EV G s) (hA : ∀ q, s.heap.size ≤ q → A q) (hKc : ∀ (a_now : Nat → Int32), KL26 a_now → ∀ (H : Heap) (locs : List Loc) (ls : Array Slot), va_P G.1 vwCl (wd_X10_loadCyclicRack G h_this h_now h_history h_over h_order h_colors h_row h_three h_seen h_group f_edits f_total a_now a_history) H → va_D A (wd_X10_loadCyclicRack G h_this h_now h_history h_over h_order h_colors h_row h_three h_seen h_group f_edits f_total a_now a_history) → va_S A s.heap H locs → lv_has ls 4 [(0, .ref h_this), (1, .int x1), (2, .int x2)] → W p l e (headSpec wsX10_loadCyclicRack rm_X10_loadCyclicRack).room s m args below meth c H locs 0 0 (MQ below (qn_QI G (fun (r : Int32) (u : Int32 × (Nat → Int32) × (Nat → Int32)) => post r u.1 u.2.1 u.2.2) (fun u : Int32 × (Nat → Int32) × (Nat → Int32) => wd_X10_loadCyclicRack G h_this h_now h_history h_over h_order h_colors h_row h_three h_seen h_group (u.1) f_total (u.2.1) (u.2.2)) A) args s 0 0 A) (F0 m 53 ls [])) :
    ∀ (fu : Nat) (x3 : Int32) (a_now : Nat → Int32), wp_X10_loadCyclicRack_L26 KL26 x1 x2 fu x3 a_now → ∀ (H : Heap) (locs : List Loc) (ls : Array Slot), va_P G.1 vwCl (wd_X10_loadCyclicRack G h_this h_now h_history h_over h_order h_colors h_row h_three h_seen h_group f_edits f_total a_now a_history) H → va_D A (wd_X10_loadCyclicRack G h_this h_now h_history h_over h_order h_colors h_row h_three h_seen h_group f_edits f_total a_now a_history) → va_S A s.heap H locs → lv_has ls 4 [(0, .ref h_this), (1, .int x1), (2, .int x2), (3, .int x3)] → W p l e (headSpec wsX10_loadCyclicRack rm_X10_loadCyclicRack).room s m args below meth c H locs 0 0 (MQ below (qn_QI G (fun (r : Int32) (u : Int32 × (Nat → Int32) × (Nat → Int32)) => post r u.1 u.2.1 u.2.2) (fun u : Int32 × (Nat → Int32) × (Nat → Int32) => wd_X10_loadCyclicRack G h_this h_now h_history h_over h_order h_colors h_row h_three h_seen h_group (u.1) f_total (u.2.1) (u.2.2)) A) args s 0 0 A) (F0 m 26 ls []) := by
  obtain ⟨hx, hb, hml, hown, hts, hr, hlocks⟩ := id C0
  intro fu
  induction fu with
  | zero => intro x3 a_now hw; exact hw.elim
  | succ fu ih =>
    intro x3 a_now hw H locs ls hP hD hS hl
    refine lv_iload_n hx hb dX10_loadCyclicRack_26 rfl (lv_at hl 3 rfl) ?_
    refine lv_iload_n hx hb dX10_loadCyclicRack_27 rfl (lv_at hl 1 rfl) ?_
    refine lv_icmp_ge (tgt := 53) hx hb dX10_loadCyclicRack_28 (by decide) (fun c_8 => ?_) (fun c_8 => ?_)
    · have hw := hw.1 c_8
      exact hKc a_now hw _ _ _ hP hD hS (lv_sub hl [0, 1, 2] rfl)
    · have hw := hw.2 c_8
      refine lv_aload_n hx hb dX10_loadCyclicRack_31 rfl (lv_at hl 0 rfl) ?_
      refine va_get (D := G.1) (ci := 10) (v := .ref h_now) (C := RX10) (T := TX10) (N := 11) hx hb hts in_X10_loadCyclicRack_X10 hown hE.1 hP 0 rfl rfl 0 (by decide) (hts (.fieldLink RX10 7 "QuandleColoringsModel" "now" "[I") lk_X10_loadCyclicRack_7) (fun _ h9 => h9) rfl dX10_loadCyclicRack_32 ?_
      refine lv_bipush (v := 6) hx hb dX10_loadCyclicRack_35 (by decide) ?_
      refine lv_iload_n hx hb dX10_loadCyclicRack_37 rfl (lv_at hl 2 rfl) ?_
      refine lv_imul hx hb dX10_loadCyclicRack_38 ?_
      refine lv_iload_n hx hb dX10_loadCyclicRack_39 rfl (lv_at hl 3 rfl) ?_
      refine lv_iadd hx hb dX10_loadCyclicRack_40 ?_
      refine lv_iload_n hx hb dX10_loadCyclicRack_41 rfl (lv_at hl 2 rfl) ?_
      refine lv_iconst (v := 1) hx hb dX10_loadCyclicRack_42 (by decide) ?_
      refine lv_iadd hx hb dX10_loadCyclicRack_43 ?_
      refine lv_iload_n hx hb dX10_loadCyclicRack_44 rfl (lv_at hl 1 rfl) ?_
      have hne := hw.1
      have hw := hw.2
      refine lv_irem hx hb dX10_loadCyclicRack_45 hne ?_
      refine lv_topi (fun z_9 ez_9 => ?_)
      have hw := hw z_9 ez_9
      have hin := hw.1
      have hw := hw.2
      obtain ⟨a_now_10, ea_now_10⟩ : ∃ y : Nat → Int32, y = upd a_now ((6 * x2) + x3).toNatClampNeg z_9 := ⟨_, rfl⟩
      have hw := hw a_now_10 ea_now_10
      refine va_iast hx hb hE.1 hP hD hS 1 0 rfl rfl hin dX10_loadCyclicRack_46 (fun H locs hP hD hS => ?_)
      rw [← ea_now_10] at hP hD
      have hP : va_P G.1 vwCl (wd_X10_loadCyclicRack G h_this h_now h_history h_over h_order h_colors h_row h_three h_seen h_group f_edits f_total a_now_10 a_history) H := hP
      have hD : va_D A (wd_X10_loadCyclicRack G h_this h_now h_history h_over h_order h_colors h_row h_three h_seen h_group f_edits f_total a_now_10 a_history) := hD
      obtain ⟨x3_11, ex3_11⟩ : ∃ y : Int32, y = x3 + 1 := ⟨_, rfl⟩
      have hw := hw x3_11 ex3_11
      refine lv_iinc (v := x3_11) (lv' := [(3, .int x3_11), (0, .ref h_this), (1, .int x1), (2, .int x2)]) hx hb dX10_loadCyclicRack_47 hl (k := 3) rfl (by rw [ex3_11]; rfl) (by decide) rfl (fun ls hl => ?_)
      refine lv_goto (tgt := 26) hx hb dX10_loadCyclicRack_50 (by decide) ?_
      exact ih x3_11 a_now_10 hw _ _ _ hP hD hS (lv_sub hl [1, 2, 3, 0] rfl)
set_option maxHeartbeats 4000000 in
set_option maxRecDepth 100000 in
theorem l_X10_loadCyclicRack_19 {p : Program} {l : Launch} {e : Env} {s : State} {m : MethodId} {args : Array Value} {below : List Frame} {meth : Method} {c : Code} {G : qn_G} {A : Nat → Prop} {h_this h_now h_history h_over h_order h_colors h_row h_three h_seen h_group : Nat} {f_edits : Int32} {f_total : Int32} {a_history : Nat → Int32} {x1 : Int32} {post : Int32 → Int32 → (Nat → Int32) → (Nat → Int32) → Prop} {KL19 : (Nat → Int32) → Prop} (C0 : qn_C p m c cX10_loadCyclicRack 4 s args wsX10_loadCyclicRack RX10 meth (some .int)) (hE : qn_EV G s) (hA : ∀ q, s.heap.size ≤ q → A q) (hKc : ∀ (a_now : Nat → Int32), KL19 a_now → ∀ (H : Heap) (locs : List Loc) (ls : Array Slot), va_P G.1 vwCl (wd_X10_loadCyclicRack G h_this h_now h_history h_over h_order h_colors h_row h_three h_seen h_group f_edits f_total a_now a_history) H → va_D A (wd_X10_loadCyclicRack G h_this h_now h_history h_over h_order h_colors h_row h_three h_seen h_group f_edits f_total a_now a_history) → va_S A s.heap H locs → lv_has ls 4 [(1, .int x1)] → W p l e (headSpec wsX10_loadCyclicRack rm_X10_loadCyclicRack).room s m args below meth c H locs 0 0 (MQ below (qn_QI G (fun (r : Int32) (u : Int32 × (Nat → Int32) × (Nat → Int32)) => post r u.1 u.2.1 u.2.2) (fun u : Int32 × (Nat → Int32) × (Nat → Int32) => wd_X10_loadCyclicRack G h_this h_now h_history h_over h_order h_colors h_row h_three h_seen h_group (u.1) f_total (u.2.1) (u.2.2)) A) args s 0 0 A) (F0 m 59 ls [])) :
    ∀ (fu : Nat) (x2 : Int32) (a_now : Nat → Int32), wp_X10_loadCyclicRack_L19 KL19 x1 fu x2 a_now → ∀ (H : Heap) (locs : List Loc) (ls : Array Slot), va_P G.1 vwCl (wd_X10_loadCyclicRack G h_this h_now h_history h_over h_order h_colors h_row h_three h_seen h_group f_edits f_total a_now a_history) H → va_D A (wd_X10_loadCyclicRack G h_this h_now h_history h_over h_order h_colors h_row h_three h_seen h_group f_edits f_total a_now a_history) → va_S A s.heap H locs → lv_has ls 4 [(0, .ref h_this), (1, .int x1), (2, .int x2)] → W p l e (headSpec wsX10_loadCyclicRack rm_X10_loadCyclicRack).room s m args below meth c H locs 0 0 (MQ below (qn_QI G (fun (r : Int32) (u : Int32 × (Nat → Int32) × (Nat → Int32)) => post r u.1 u.2.1 u.2.2) (fun u : Int32 × (Nat → Int32) × (Nat → Int32) => wd_X10_loadCyclicRack G h_this h_now h_history h_over h_order h_colors h_row h_three h_seen h_group (u.1) f_total (u.2.1) (u.2.2)) A) args s 0 0 A) (F0 m 19 ls []) := by
  obtain ⟨hx, hb, hml, hown, hts, hr, hlocks⟩ := id C0
  intro fu
  induction fu with
  | zero => intro x2 a_now hw; exact hw.elim
  | succ fu ih =>
    intro x2 a_now hw H locs ls hP hD hS hl
    refine lv_iload_n hx hb dX10_loadCyclicRack_19 rfl (lv_at hl 2 rfl) ?_
    refine lv_iload_n hx hb dX10_loadCyclicRack_20 rfl (lv_at hl 1 rfl) ?_
    refine lv_icmp_ge (tgt := 59) hx hb dX10_loadCyclicRack_21 (by decide) (fun c_7 => ?_) (fun c_7 => ?_)
    · have hw := hw.1 c_7
      exact hKc a_now hw _ _ _ hP hD hS (lv_sub hl [1] rfl)
    · have hw := hw.2 c_7
      refine lv_iconst (v := 0) hx hb dX10_loadCyclicRack_24 (by decide) ?_
      refine lv_istore_n (lv' := [(3, .int 0), (0, .ref h_this), (1, .int x1), (2, .int x2)]) hx hb dX10_loadCyclicRack_25 rfl hl (by decide) rfl (fun ls hl => ?_)
      obtain ⟨fu_14, hw⟩ := hw
      refine l_X10_loadCyclicRack_26 (post := post) C0 hE hA (fun a_now_12 hw H locs ls hP hD hS hl => ?_) fu_14 0 a_now hw _ _ _ hP hD hS (lv_sub hl [1, 2, 3, 0] rfl)
      obtain ⟨x2_13, ex2_13⟩ : ∃ y : Int32, y = x2 + 1 := ⟨_, rfl⟩
      have hw := hw x2_13 ex2_13
      refine lv_iinc (v := x2_13) (lv' := [(2, .int x2_13), (0, .ref h_this), (1, .int x1)]) hx hb dX10_loadCyclicRack_53 hl (k := 2) rfl (by rw [ex2_13]; rfl) (by decide) rfl (fun ls hl => ?_)
      refine lv_goto (tgt := 19) hx hb dX10_loadCyclicRack_56 (by decide) ?_
      exact ih x2_13 a_now_12 hw _ _ _ hP hD hS (lv_sub hl [1, 2, 0] rfl)
set_option maxHeartbeats 4000000 in
set_option maxRecDepth 100000 in
theorem c_X10_loadCyclicRack {l : Launch} (G : qn_G) (sz : Nat) (h_this h_now h_history h_over h_order h_colors h_row h_three h_seen h_group : Nat) (f_edits : Int32) (f_total : Int32) (a_now : Nat → Int32) (a_history : Nat → Int32) (x1 : Int32) {post : Int32 → Int32 → (Nat → Int32) → (Nat → Int32) → Prop} (hw : wp_X10_loadCyclicRack post f_edits a_now a_history x1) : Met l yX10_loadCyclicRack wsX10_loadCyclicRack rm_X10_loadCyclicRack (qn_PC G [.ref h_this, .int x1] sz (wd_X10_loadCyclicRack G h_this h_now h_history h_over h_order h_colors h_row h_three h_seen h_group f_edits f_total a_now a_history)) (qn_QI G (fun (r : Int32) (u : Int32 × (Nat → Int32) × (Nat → Int32)) => post r u.1 u.2.1 u.2.2) (fun u : Int32 × (Nat → Int32) × (Nat → Int32) => wd_X10_loadCyclicRack G h_this h_now h_history h_over h_order h_colors h_row h_three h_seen h_group (u.1) f_total (u.2.1) (u.2.2)) (va_A (wd_X10_loadCyclicRack G h_this h_now h_history h_over h_order h_colors h_row h_three h_seen h_group f_edits f_total a_now a_history) sz)) 0 0 (va_A (wd_X10_loadCyclicRack G h_this h_now h_history h_over h_order h_colors h_row h_three h_seen h_group f_edits f_total a_now a_history) sz) := by
  refine Met.ofW (cc := cX10_loadCyclicRack) (maxL := 4) (ret := (some .int)) (by decide) rfl ?_
  intro p e s m args below meth c s₁ B hml hv
  obtain ⟨rfl, hsz, hP, hE, hD0⟩ := hv
  have C0 : qn_C p m c cX10_loadCyclicRack 4 s _ wsX10_loadCyclicRack RX10 meth (some .int) := qn_C0 B hml
  obtain ⟨hx, hb, -, hown, hts, hr, hlocks⟩ := id C0
  subst hsz
  have hD := hD0.self (sz := s.heap.size)
  generalize hAe : va_A (wd_X10_loadCyclicRack G h_this h_now h_history h_over h_order h_colors h_row h_three h_seen h_group f_edits f_total a_now a_history) s.heap.size = A at hD ⊢
  have hA : ∀ q : Nat, s.heap.size ≤ q → A q := fun q h => by rw [← hAe]; exact Or.inr h
  clear hAe
  have hS : va_S A s.heap s.heap [] := va_S.rf
  have hl := lv_entry ([.ref h_this, .int x1]) (n := 4) (Nat.le_of_ble_eq_true rfl)
  rw [lg_entry_eq]
  generalize (lg_sl ([.ref h_this, .int x1]) ++ List.replicate (4 - (lg_sl ([.ref h_this, .int x1])).length) Slot.unset).toArray = ls at hl ⊢
  have hl : lv_has ls 4 [(0, .ref h_this), (1, .int x1)] := hl
  have hP : va_P G.1 vwCl (wd_X10_loadCyclicRack G h_this h_now h_history h_over h_order h_colors h_row h_three h_seen h_group f_edits f_total a_now a_history) s.heap := hP
  refine lv_iload_n hx hb dX10_loadCyclicRack_0 rfl (lv_at hl 1 rfl) ?_
  refine lv_iconst (v := 1) hx hb dX10_loadCyclicRack_1 (by decide) ?_
  refine lv_bipush (v := 6) hx hb dX10_loadCyclicRack_2 (by decide) ?_
  have hC9 : ([] : List Nat).map (fun i => (wd_X10_loadCyclicRack G h_this h_now h_history h_over h_order h_colors h_row h_three h_seen h_group f_edits f_total a_now a_history)[i]?) = (wd_X10_in G).map some := rfl
  refine qn_callI (wd := (fun u : Unit => wd_X10_loadCyclicRack G h_this h_now h_history h_over h_order h_colors h_row h_three h_seen h_group f_edits f_total a_now a_history)) [] (va_runS (As := [.int x1, .int 1, .int 6]) (rest := []) ⟨hx, hb, hml, hown, hts⟩ (c_X10_in G _ x1 1 6 hw) (va_cwS 3 hts gX10_loadCyclicRack_X10_in rfl rfl rfl (by decide +kernel) ⟨Nat.le_of_ble_eq_true rfl, Nat.le_of_ble_eq_true rfl⟩) (qn_preS hE hP hD [] hC9 (by decide +kernel)) rfl rfl hl.1 rfl (lv_room (Nat.le_of_ble_eq_true rfl)) dX10_loadCyclicRack_4 ⟨Nat.le_of_ble_eq_true rfl, Nat.le_of_ble_eq_true rfl⟩) hP hD hS hA hC9 [none, none, none] (M := 3) rfl (by decide +kernel) (fun _ => rfl) (fun _ => rfl) (fun r_1 _ H locs hw hP hD hS => ?_)
  try dsimp only at hw
  have hP : va_P G.1 vwCl (wd_X10_loadCyclicRack G h_this h_now h_history h_over h_order h_colors h_row h_three h_seen h_group f_edits f_total a_now a_history) H := hP
  have hD : va_D A (wd_X10_loadCyclicRack G h_this h_now h_history h_over h_order h_colors h_row h_three h_seen h_group f_edits f_total a_now a_history) := hD
  refine lv_if_ne (tgt := 12) hx hb dX10_loadCyclicRack_7 (by decide) (fun c_2 => ?_) (fun c_2 => ?_)
  · have hw := hw.1 c_2
    refine lv_aload_n hx hb dX10_loadCyclicRack_12 rfl (lv_at hl 0 rfl) ?_
    refine lv_iload_n hx hb dX10_loadCyclicRack_13 rfl (lv_at hl 1 rfl) ?_
    have hC9 : ([0, 1, 2]).map (fun i => (wd_X10_loadCyclicRack G h_this h_now h_history h_over h_order h_colors h_row h_three h_seen h_group f_edits f_total a_now a_history)[i]?) = (wd_X10_loads G h_this h_now h_history h_over h_order h_colors h_row h_three h_seen h_group f_edits f_total a_now a_history).map some := rfl
    refine qn_callV (wd := (fun u : Int32 × (Nat → Int32) × (Nat → Int32) => wd_X10_loadCyclicRack G h_this h_now h_history h_over h_order h_colors h_row h_three h_seen h_group (u.1) f_total (u.2.1) (u.2.2))) [0, 1, 2] (va_runV (As := [.int x1]) (rest := []) ⟨hx, hb, hml, hown, hts⟩ (c_X10_loads G _ h_this h_now h_history h_over h_order h_colors h_row h_three h_seen h_group f_edits f_total a_now a_history x1 hw) (cwV 1 hts gX10_loadCyclicRack_X10_loads rfl rfl rfl (by decide +kernel) ⟨Nat.le_of_ble_eq_true rfl, Nat.le_of_ble_eq_true rfl⟩) (qn_preV hE hP hD [0, 1, 2] hC9 (by decide +kernel) (ci := 10) rfl rfl) rfl rfl hl.1 rfl (lv_room (Nat.le_of_ble_eq_true rfl)) dX10_loadCyclicRack_14 ⟨Nat.le_of_ble_eq_true rfl, Nat.le_of_ble_eq_true rfl⟩) hP hD hS hA hC9 [some 0, some 1, some 2] (M := 3) rfl (by decide +kernel) (fun _ => rfl) (fun _ => rfl) (fun u_6 H locs hw hP hD hS => ?_)
    obtain ⟨f_edits_3, a_now_4, a_history_5⟩ := u_6
    try dsimp only at hw
    have hP : va_P G.1 vwCl (wd_X10_loadCyclicRack G h_this h_now h_history h_over h_order h_colors h_row h_three h_seen h_group f_edits_3 f_total a_now_4 a_history_5) H := hP
    have hD : va_D A (wd_X10_loadCyclicRack G h_this h_now h_history h_over h_order h_colors h_row h_three h_seen h_group f_edits_3 f_total a_now_4 a_history_5) := hD
    refine lv_iconst (v := 0) hx hb dX10_loadCyclicRack_17 (by decide) ?_
    refine lv_istore_n (lv' := [(2, .int 0), (0, .ref h_this), (1, .int x1)]) hx hb dX10_loadCyclicRack_18 rfl hl (by decide) rfl (fun ls hl => ?_)
    obtain ⟨fu_16, hw⟩ := hw
    refine l_X10_loadCyclicRack_19 (post := post) C0 hE hA (fun a_now_15 hw H locs ls hP hD hS hl => ?_) fu_16 0 a_now_4 hw _ _ _ hP hD hS (lv_sub hl [1, 2, 0] rfl)
    refine lv_iload_n hx hb dX10_loadCyclicRack_59 rfl (lv_at hl 0 rfl) ?_
    exact W.iret (v := x1) hx hb hr (fun t ht hW => ⟨⟨x1, (f_edits_3, a_now_15, a_history_5), rfl, hw, by rw [ht]; exact hP, hD⟩, hS.F ht⟩) hS.2.2 dX10_loadCyclicRack_60
  · have hw := hw.2 c_2
    refine lv_iconst (v := (-1)) hx hb dX10_loadCyclicRack_10 (by decide) ?_
    exact W.iret (v := (-1)) hx hb hr (fun t ht hW => ⟨⟨(-1), (f_edits, a_now, a_history), rfl, hw, by rw [ht]; exact hP, hD⟩, hS.F ht⟩) hS.2.2 dX10_loadCyclicRack_11
-- QuandleColoringsModel.column()I
abbrev rm_X10_column : Room := { frames := 0, cells := 0, slots := 0, locals := 0 }
abbrev wd_X10_column (G : qn_G) (h_this h_now h_history h_over h_order h_colors h_row h_three h_seen h_group : Nat) (f_edits : Int32) (f_total : Int32) (a_now : Nat → Int32) (a_over : Nat → Int32) : va_W := [(h_this, .inr (10, [.ref h_now, .ref h_history, .int f_edits, .ref h_over, .ref h_order, .ref h_colors, .int f_total, .ref h_row, .ref h_three, .ref h_seen, .ref h_group])), (h_now, .inl (G.2.1, 88, .inl a_now)), (h_over, .inl (G.2.1, 36, .inl a_over))]
theorem in_X10_column_X10 : ∀ w ∈ u_ws RX10 TX10 11, w ∈ wsX10_column := by decide +kernel
theorem lk_X10_column_16 : Cond.fieldLink RX10 16 "QuandleColoringsModel" "over" "[I" ∈ wsX10_column := by decide +kernel
theorem lk_X10_column_7 : Cond.fieldLink RX10 7 "QuandleColoringsModel" "now" "[I" ∈ wsX10_column := by decide +kernel
def wp_X10_column_L17 (post : Int32 → (Nat → Int32) → Prop) (KL17 : (Nat → Int32) → Prop) (x1 : Int32) (a_now : Nat → Int32) : Nat → Int32 → Int32 → (Nat → Int32) → Prop
  | 0 => fun _ _ _ => False
  | fu + 1 => fun x2 x3 a_over => (vp_in 84 88 ∧ (((a_now (84 : Int32).toNatClampNeg) ≤ x3 → (KL17 a_over)) ∧ (¬ (a_now (84 : Int32).toNatClampNeg) ≤ x3 → (vp_in ((6 * x3) + x1) 88 ∧ (∀ x4_3 : Int32, x4_3 = a_now ((6 * x3) + x1).toNatClampNeg → ((¬ ((x2 >>> (x4_3 &&& 31)) &&& 1) = 1 → (∀ x2_5 : Int32, x2_5 = x2 ||| (1 <<< (x4_3 &&& 31)) → (vp_in ((6 * x4_3) + x1) 36 ∧ (∀ a_over_6 : Nat → Int32, a_over_6 = upd a_over ((6 * x4_3) + x1).toNatClampNeg x3 → (∀ x3_7 : Int32, x3_7 = x3 + 1 → ((wp_X10_column_L17 post KL17 x1 a_now fu) x2_5 x3_7 a_over_6)))))) ∧ (((x2 >>> (x4_3 &&& 31)) &&& 1) = 1 → (post x1 a_over))))))))
def wp_X10_column_L2 (post : Int32 → (Nat → Int32) → Prop) (KL2 : (Nat → Int32) → Prop) (a_now : Nat → Int32) : Nat → Int32 → (Nat → Int32) → Prop
  | 0 => fun _ _ => False
  | fu + 1 => fun x1 a_over => (vp_in 84 88 ∧ (((a_now (84 : Int32).toNatClampNeg) ≤ x1 → (KL2 a_over)) ∧ (¬ (a_now (84 : Int32).toNatClampNeg) ≤ x1 → (∃ fu_10 : Nat, wp_X10_column_L17 post (fun (a_over_8 : Nat → Int32) => (∀ x1_9 : Int32, x1_9 = x1 + 1 → ((wp_X10_column_L2 post KL2 a_now fu) x1_9 a_over_8))) x1 a_now fu_10 0 0 a_over))))
def wp_X10_column (post : Int32 → (Nat → Int32) → Prop) (a_now : Nat → Int32) (a_over : Nat → Int32) : Prop := (∃ fu_12 : Nat, wp_X10_column_L2 post (fun (a_over_11 : Nat → Int32) => (post (-4) a_over_11)) a_now fu_12 0 a_over)
set_option maxHeartbeats 4000000 in
set_option maxRecDepth 100000 in
theorem l_X10_column_17 {p : Program} {l : Launch} {e : Env} {s : State} {m : MethodId} {args : Array Value} {below : List Frame} {meth : Method} {c : Code} {G : qn_G} {A : Nat → Prop} {h_this h_now h_history h_over h_order h_colors h_row h_three h_seen h_group : Nat} {f_edits : Int32} {f_total : Int32} {a_now : Nat → Int32} {x1 : Int32} {post : Int32 → (Nat → Int32) → Prop} {KL17 : (Nat → Int32) → Prop} (C0 : qn_C p m c cX10_column 5 s args wsX10_column RX10 meth (some .int)) (hE : qn_EV G s) (hA : ∀ q, s.heap.size ≤ q → A q) (hKc : ∀ (a_over : Nat → Int32), KL17 a_over → ∀ (H : Heap) (locs : List Loc) (ls : Array Slot), va_P G.1 vwCl (wd_X10_column G h_this h_now h_history h_over h_order h_colors h_row h_three h_seen h_group f_edits f_total a_now a_over) H → va_D A (wd_X10_column G h_this h_now h_history h_over h_order h_colors h_row h_three h_seen h_group f_edits f_total a_now a_over) → va_S A s.heap H locs → lv_has ls 5 [(0, .ref h_this), (1, .int x1)] → W p l e (headSpec wsX10_column rm_X10_column).room s m args below meth c H locs 0 0 (MQ below (qn_QI G (fun (r : Int32) (u : (Nat → Int32)) => post r u) (fun u : (Nat → Int32) => wd_X10_column G h_this h_now h_history h_over h_order h_colors h_row h_three h_seen h_group f_edits f_total a_now u) A) args s 0 0 A) (F0 m 79 ls [])) :
    ∀ (fu : Nat) (x2 : Int32) (x3 : Int32) (a_over : Nat → Int32), wp_X10_column_L17 post KL17 x1 a_now fu x2 x3 a_over → ∀ (H : Heap) (locs : List Loc) (ls : Array Slot), va_P G.1 vwCl (wd_X10_column G h_this h_now h_history h_over h_order h_colors h_row h_three h_seen h_group f_edits f_total a_now a_over) H → va_D A (wd_X10_column G h_this h_now h_history h_over h_order h_colors h_row h_three h_seen h_group f_edits f_total a_now a_over) → va_S A s.heap H locs → lv_has ls 5 [(0, .ref h_this), (1, .int x1), (2, .int x2), (3, .int x3)] → W p l e (headSpec wsX10_column rm_X10_column).room s m args below meth c H locs 0 0 (MQ below (qn_QI G (fun (r : Int32) (u : (Nat → Int32)) => post r u) (fun u : (Nat → Int32) => wd_X10_column G h_this h_now h_history h_over h_order h_colors h_row h_three h_seen h_group f_edits f_total a_now u) A) args s 0 0 A) (F0 m 17 ls []) := by
  obtain ⟨hx, hb, hml, hown, hts, hr, hlocks⟩ := id C0
  intro fu
  induction fu with
  | zero => intro x2 x3 a_over hw; exact hw.elim
  | succ fu ih =>
    intro x2 x3 a_over hw H locs ls hP hD hS hl
    refine lv_iload_n hx hb dX10_column_17 rfl (lv_at hl 3 rfl) ?_
    refine lv_aload_n hx hb dX10_column_18 rfl (lv_at hl 0 rfl) ?_
    refine va_get (D := G.1) (ci := 10) (v := .ref h_now) (C := RX10) (T := TX10) (N := 11) hx hb hts in_X10_column_X10 hown hE.1 hP 0 rfl rfl 0 (by decide) (hts (.fieldLink RX10 7 "QuandleColoringsModel" "now" "[I") lk_X10_column_7) (fun _ h9 => h9) rfl dX10_column_19 ?_
    refine lv_bipush (v := 84) hx hb dX10_column_22 (by decide) ?_
    have hin := hw.1
    have hw := hw.2
    refine va_iald hx hb hE.1 hP 1 0 rfl rfl hin dX10_column_24 ?_
    refine lv_icmp_ge (tgt := 79) hx hb dX10_column_25 (by decide) (fun c_2 => ?_) (fun c_2 => ?_)
    · have hw := hw.1 c_2
      exact hKc a_over hw _ _ _ hP hD hS (lv_sub hl [0, 1] rfl)
    · have hw := hw.2 c_2
      refine lv_aload_n hx hb dX10_column_28 rfl (lv_at hl 0 rfl) ?_
      refine va_get (D := G.1) (ci := 10) (v := .ref h_now) (C := RX10) (T := TX10) (N := 11) hx hb hts in_X10_column_X10 hown hE.1 hP 0 rfl rfl 0 (by decide) (hts (.fieldLink RX10 7 "QuandleColoringsModel" "now" "[I") lk_X10_column_7) (fun _ h9 => h9) rfl dX10_column_29 ?_
      refine lv_bipush (v := 6) hx hb dX10_column_32 (by decide) ?_
      refine lv_iload_n hx hb dX10_column_34 rfl (lv_at hl 3 rfl) ?_
      refine lv_imul hx hb dX10_column_35 ?_
      refine lv_iload_n hx hb dX10_column_36 rfl (lv_at hl 1 rfl) ?_
      refine lv_iadd hx hb dX10_column_37 ?_
      have hin := hw.1
      have hw := hw.2
      refine va_iald hx hb hE.1 hP 1 0 rfl rfl hin dX10_column_38 ?_
      refine lv_topi (fun x4_3 ex4_3 => ?_)
      have hw := hw x4_3 ex4_3
      refine lv_istore (lv' := [(4, .int x4_3), (0, .ref h_this), (1, .int x1), (2, .int x2), (3, .int x3)]) hx hb dX10_column_39 hl (by decide) rfl (fun ls hl => ?_)
      refine lv_iload_n hx hb dX10_column_41 rfl (lv_at hl 3 rfl) ?_
      refine lv_iload hx hb dX10_column_42 (lv_at hl 0 rfl) ?_
      refine lv_ishr hx hb dX10_column_44 ?_
      refine lv_iconst (v := 1) hx hb dX10_column_45 (by decide) ?_
      refine lv_iand hx hb dX10_column_46 ?_
      refine lv_iconst (v := 1) hx hb dX10_column_47 (by decide) ?_
      refine lv_icmp_ne (tgt := 53) hx hb dX10_column_48 (by decide) (fun c_4 => ?_) (fun c_4 => ?_)
      · have hw := hw.1 c_4
        refine lv_iload_n hx hb dX10_column_53 rfl (lv_at hl 3 rfl) ?_
        refine lv_iconst (v := 1) hx hb dX10_column_54 (by decide) ?_
        refine lv_iload hx hb dX10_column_55 (lv_at hl 0 rfl) ?_
        refine lv_ishl hx hb dX10_column_57 ?_
        refine lv_ior hx hb dX10_column_58 ?_
        refine lv_topi (fun x2_5 ex2_5 => ?_)
        have hw := hw x2_5 ex2_5
        refine lv_istore_n (lv' := [(2, .int x2_5), (4, .int x4_3), (0, .ref h_this), (1, .int x1), (3, .int x3)]) hx hb dX10_column_59 rfl hl (by decide) rfl (fun ls hl => ?_)
        refine lv_aload_n hx hb dX10_column_60 rfl (lv_at hl 2 rfl) ?_
        refine va_get (D := G.1) (ci := 10) (v := .ref h_over) (C := RX10) (T := TX10) (N := 11) hx hb hts in_X10_column_X10 hown hE.1 hP 0 rfl rfl 3 (by decide) (hts (.fieldLink RX10 16 "QuandleColoringsModel" "over" "[I") lk_X10_column_16) (fun _ h9 => h9) rfl dX10_column_61 ?_
        refine lv_bipush (v := 6) hx hb dX10_column_64 (by decide) ?_
        refine lv_iload hx hb dX10_column_66 (lv_at hl 1 rfl) ?_
        refine lv_imul hx hb dX10_column_68 ?_
        refine lv_iload_n hx hb dX10_column_69 rfl (lv_at hl 3 rfl) ?_
        refine lv_iadd hx hb dX10_column_70 ?_
        refine lv_iload_n hx hb dX10_column_71 rfl (lv_at hl 4 rfl) ?_
        have hin := hw.1
        have hw := hw.2
        obtain ⟨a_over_6, ea_over_6⟩ : ∃ y : Nat → Int32, y = upd a_over ((6 * x4_3) + x1).toNatClampNeg x3 := ⟨_, rfl⟩
        have hw := hw a_over_6 ea_over_6
        refine va_iast hx hb hE.1 hP hD hS 2 0 rfl rfl hin dX10_column_72 (fun H locs hP hD hS => ?_)
        rw [← ea_over_6] at hP hD
        have hP : va_P G.1 vwCl (wd_X10_column G h_this h_now h_history h_over h_order h_colors h_row h_three h_seen h_group f_edits f_total a_now a_over_6) H := hP
        have hD : va_D A (wd_X10_column G h_this h_now h_history h_over h_order h_colors h_row h_three h_seen h_group f_edits f_total a_now a_over_6) := hD
        obtain ⟨x3_7, ex3_7⟩ : ∃ y : Int32, y = x3 + 1 := ⟨_, rfl⟩
        have hw := hw x3_7 ex3_7
        refine lv_iinc (v := x3_7) (lv' := [(3, .int x3_7), (2, .int x2_5), (4, .int x4_3), (0, .ref h_this), (1, .int x1)]) hx hb dX10_column_73 hl (k := 4) rfl (by rw [ex3_7]; rfl) (by decide) rfl (fun ls hl => ?_)
        refine lv_goto (tgt := 17) hx hb dX10_column_76 (by decide) ?_
        exact ih x2_5 x3_7 a_over_6 hw _ _ _ hP hD hS (lv_sub hl [3, 4, 1, 0] rfl)
      · have hw := hw.2 c_4
        refine lv_iload_n hx hb dX10_column_51 rfl (lv_at hl 2 rfl) ?_
        exact W.iret (v := x1) hx hb hr (fun t ht hW => ⟨⟨x1, a_over, rfl, hw, by rw [ht]; exact hP, hD⟩, hS.F ht⟩) hS.2.2 dX10_column_52
set_option maxHeartbeats 4000000 in
set_option maxRecDepth 100000 in
theorem l_X10_column_2 {p : Program} {l : Launch} {e : Env} {s : State} {m : MethodId} {args : Array Value} {below : List Frame} {meth : Method} {c : Code} {G : qn_G} {A : Nat → Prop} {h_this h_now h_history h_over h_order h_colors h_row h_three h_seen h_group : Nat} {f_edits : Int32} {f_total : Int32} {a_now : Nat → Int32} {post : Int32 → (Nat → Int32) → Prop} {KL2 : (Nat → Int32) → Prop} (C0 : qn_C p m c cX10_column 5 s args wsX10_column RX10 meth (some .int)) (hE : qn_EV G s) (hA : ∀ q, s.heap.size ≤ q → A q) (hKc : ∀ (a_over : Nat → Int32), KL2 a_over → ∀ (H : Heap) (locs : List Loc) (ls : Array Slot), va_P G.1 vwCl (wd_X10_column G h_this h_now h_history h_over h_order h_colors h_row h_three h_seen h_group f_edits f_total a_now a_over) H → va_D A (wd_X10_column G h_this h_now h_history h_over h_order h_colors h_row h_three h_seen h_group f_edits f_total a_now a_over) → va_S A s.heap H locs → lv_has ls 5 [] → W p l e (headSpec wsX10_column rm_X10_column).room s m args below meth c H locs 0 0 (MQ below (qn_QI G (fun (r : Int32) (u : (Nat → Int32)) => post r u) (fun u : (Nat → Int32) => wd_X10_column G h_this h_now h_history h_over h_order h_colors h_row h_three h_seen h_group f_edits f_total a_now u) A) args s 0 0 A) (F0 m 85 ls [])) :
    ∀ (fu : Nat) (x1 : Int32) (a_over : Nat → Int32), wp_X10_column_L2 post KL2 a_now fu x1 a_over → ∀ (H : Heap) (locs : List Loc) (ls : Array Slot), va_P G.1 vwCl (wd_X10_column G h_this h_now h_history h_over h_order h_colors h_row h_three h_seen h_group f_edits f_total a_now a_over) H → va_D A (wd_X10_column G h_this h_now h_history h_over h_order h_colors h_row h_three h_seen h_group f_edits f_total a_now a_over) → va_S A s.heap H locs → lv_has ls 5 [(0, .ref h_this), (1, .int x1)] → W p l e (headSpec wsX10_column rm_X10_column).room s m args below meth c H locs 0 0 (MQ below (qn_QI G (fun (r : Int32) (u : (Nat → Int32)) => post r u) (fun u : (Nat → Int32) => wd_X10_column G h_this h_now h_history h_over h_order h_colors h_row h_three h_seen h_group f_edits f_total a_now u) A) args s 0 0 A) (F0 m 2 ls []) := by
  obtain ⟨hx, hb, hml, hown, hts, hr, hlocks⟩ := id C0
  intro fu
  induction fu with
  | zero => intro x1 a_over hw; exact hw.elim
  | succ fu ih =>
    intro x1 a_over hw H locs ls hP hD hS hl
    refine lv_iload_n hx hb dX10_column_2 rfl (lv_at hl 1 rfl) ?_
    refine lv_aload_n hx hb dX10_column_3 rfl (lv_at hl 0 rfl) ?_
    refine va_get (D := G.1) (ci := 10) (v := .ref h_now) (C := RX10) (T := TX10) (N := 11) hx hb hts in_X10_column_X10 hown hE.1 hP 0 rfl rfl 0 (by decide) (hts (.fieldLink RX10 7 "QuandleColoringsModel" "now" "[I") lk_X10_column_7) (fun _ h9 => h9) rfl dX10_column_4 ?_
    refine lv_bipush (v := 84) hx hb dX10_column_7 (by decide) ?_
    have hin := hw.1
    have hw := hw.2
    refine va_iald hx hb hE.1 hP 1 0 rfl rfl hin dX10_column_9 ?_
    refine lv_icmp_ge (tgt := 85) hx hb dX10_column_10 (by decide) (fun c_1 => ?_) (fun c_1 => ?_)
    · have hw := hw.1 c_1
      exact hKc a_over hw _ _ _ hP hD hS (lv_sub hl [] rfl)
    · have hw := hw.2 c_1
      refine lv_iconst (v := 0) hx hb dX10_column_13 (by decide) ?_
      refine lv_istore_n (lv' := [(2, .int 0), (0, .ref h_this), (1, .int x1)]) hx hb dX10_column_14 rfl hl (by decide) rfl (fun ls hl => ?_)
      refine lv_iconst (v := 0) hx hb dX10_column_15 (by decide) ?_
      refine lv_istore_n (lv' := [(3, .int 0), (2, .int 0), (0, .ref h_this), (1, .int x1)]) hx hb dX10_column_16 rfl hl (by decide) rfl (fun ls hl => ?_)
      obtain ⟨fu_10, hw⟩ := hw
      refine l_X10_column_17 (post := post) C0 hE hA (fun a_over_8 hw H locs ls hP hD hS hl => ?_) fu_10 0 0 a_over hw _ _ _ hP hD hS (lv_sub hl [2, 3, 1, 0] rfl)
      obtain ⟨x1_9, ex1_9⟩ : ∃ y : Int32, y = x1 + 1 := ⟨_, rfl⟩
      have hw := hw x1_9 ex1_9
      refine lv_iinc (v := x1_9) (lv' := [(1, .int x1_9), (0, .ref h_this)]) hx hb dX10_column_79 hl (k := 1) rfl (by rw [ex1_9]; rfl) (by decide) rfl (fun ls hl => ?_)
      refine lv_goto (tgt := 2) hx hb dX10_column_82 (by decide) ?_
      exact ih x1_9 a_over_8 hw _ _ _ hP hD hS (lv_sub hl [1, 0] rfl)
set_option maxHeartbeats 4000000 in
set_option maxRecDepth 100000 in
theorem c_X10_column {l : Launch} (G : qn_G) (sz : Nat) (h_this h_now h_history h_over h_order h_colors h_row h_three h_seen h_group : Nat) (f_edits : Int32) (f_total : Int32) (a_now : Nat → Int32) (a_over : Nat → Int32) {post : Int32 → (Nat → Int32) → Prop} (hw : wp_X10_column post a_now a_over) : Met l yX10_column wsX10_column rm_X10_column (qn_PC G [.ref h_this] sz (wd_X10_column G h_this h_now h_history h_over h_order h_colors h_row h_three h_seen h_group f_edits f_total a_now a_over)) (qn_QI G (fun (r : Int32) (u : (Nat → Int32)) => post r u) (fun u : (Nat → Int32) => wd_X10_column G h_this h_now h_history h_over h_order h_colors h_row h_three h_seen h_group f_edits f_total a_now u) (va_A (wd_X10_column G h_this h_now h_history h_over h_order h_colors h_row h_three h_seen h_group f_edits f_total a_now a_over) sz)) 0 0 (va_A (wd_X10_column G h_this h_now h_history h_over h_order h_colors h_row h_three h_seen h_group f_edits f_total a_now a_over) sz) := by
  refine Met.ofW (cc := cX10_column) (maxL := 5) (ret := (some .int)) (by decide) rfl ?_
  intro p e s m args below meth c s₁ B hml hv
  obtain ⟨rfl, hsz, hP, hE, hD0⟩ := hv
  have C0 : qn_C p m c cX10_column 5 s _ wsX10_column RX10 meth (some .int) := qn_C0 B hml
  obtain ⟨hx, hb, -, hown, hts, hr, hlocks⟩ := id C0
  subst hsz
  have hD := hD0.self (sz := s.heap.size)
  generalize hAe : va_A (wd_X10_column G h_this h_now h_history h_over h_order h_colors h_row h_three h_seen h_group f_edits f_total a_now a_over) s.heap.size = A at hD ⊢
  have hA : ∀ q : Nat, s.heap.size ≤ q → A q := fun q h => by rw [← hAe]; exact Or.inr h
  clear hAe
  have hS : va_S A s.heap s.heap [] := va_S.rf
  have hl := lv_entry ([.ref h_this]) (n := 5) (Nat.le_of_ble_eq_true rfl)
  rw [lg_entry_eq]
  generalize (lg_sl ([.ref h_this]) ++ List.replicate (5 - (lg_sl ([.ref h_this])).length) Slot.unset).toArray = ls at hl ⊢
  have hl : lv_has ls 5 [(0, .ref h_this)] := hl
  have hP : va_P G.1 vwCl (wd_X10_column G h_this h_now h_history h_over h_order h_colors h_row h_three h_seen h_group f_edits f_total a_now a_over) s.heap := hP
  refine lv_iconst (v := 0) hx hb dX10_column_0 (by decide) ?_
  refine lv_istore_n (lv' := [(1, .int 0), (0, .ref h_this)]) hx hb dX10_column_1 rfl hl (by decide) rfl (fun ls hl => ?_)
  obtain ⟨fu_12, hw⟩ := hw
  refine l_X10_column_2 (post := post) C0 hE hA (fun a_over_11 hw H locs ls hP hD hS hl => ?_) fu_12 0 a_over hw _ _ _ hP hD hS (lv_sub hl [1, 0] rfl)
  refine lv_bipush (v := (-4)) hx hb dX10_column_85 (by decide) ?_
  exact W.iret (v := (-4)) hx hb hr (fun t ht hW => ⟨⟨(-4), a_over_11, rfl, hw, by rw [ht]; exact hP, hD⟩, hS.F ht⟩) hS.2.2 dX10_column_87
-- QuandleColoringsModel.loadDual()I
abbrev rm_X10_loadDual : Room := { frames := 2, cells := 0, slots := 0, locals := 43 }
abbrev wd_X10_loadDual (G : qn_G) (h_this h_now h_history h_over h_order h_colors h_row h_three h_seen h_group : Nat) (f_edits : Int32) (f_total : Int32) (a_now : Nat → Int32) (a_history : Nat → Int32) (a_over : Nat → Int32) : va_W := [(h_this, .inr (10, [.ref h_now, .ref h_history, .int f_edits, .ref h_over, .ref h_order, .ref h_colors, .int f_total, .ref h_row, .ref h_three, .ref h_seen, .ref h_group])), (h_now, .inl (G.2.1, 88, .inl a_now)), (h_history, .inl (G.2.1, 440, .inl a_history)), (h_over, .inl (G.2.1, 36, .inl a_over))]
theorem in_X10_loadDual_X10 : ∀ w ∈ u_ws RX10 TX10 11, w ∈ wsX10_loadDual := by decide +kernel
theorem lk_X10_loadDual_16 : Cond.fieldLink RX10 16 "QuandleColoringsModel" "over" "[I" ∈ wsX10_loadDual := by decide +kernel
theorem lk_X10_loadDual_7 : Cond.fieldLink RX10 7 "QuandleColoringsModel" "now" "[I" ∈ wsX10_loadDual := by decide +kernel
def wp_X10_loadDual_L34 (KL34 : (Nat → Int32) → Prop) (x1 : Int32) (x2 : Int32) (a_over : Nat → Int32) : Nat → Int32 → (Nat → Int32) → Prop
  | 0 => fun _ _ => False
  | fu + 1 => fun x3 a_now => ((x1 ≤ x3 → (KL34 a_now)) ∧ (¬ x1 ≤ x3 → (vp_in ((6 * x2) + x3) 36 ∧ (vp_in ((6 * x2) + x3) 88 ∧ (∀ a_now_11 : Nat → Int32, a_now_11 = upd a_now ((6 * x2) + x3).toNatClampNeg (a_over ((6 * x2) + x3).toNatClampNeg) → (∀ x3_12 : Int32, x3_12 = x3 + 1 → ((wp_X10_loadDual_L34 KL34 x1 x2 a_over fu) x3_12 a_now_11)))))))
def wp_X10_loadDual_L27 (KL27 : (Nat → Int32) → Prop) (x1 : Int32) (a_over : Nat → Int32) : Nat → Int32 → (Nat → Int32) → Prop
  | 0 => fun _ _ => False
  | fu + 1 => fun x2 a_now => ((x1 ≤ x2 → (KL27 a_now)) ∧ (¬ x1 ≤ x2 → (∃ fu_15 : Nat, wp_X10_loadDual_L34 (fun (a_now_13 : Nat → Int32) => (∀ x2_14 : Int32, x2_14 = x2 + 1 → ((wp_X10_loadDual_L27 KL27 x1 a_over fu) x2_14 a_now_13))) x1 x2 a_over fu_15 0 a_now)))
def wp_X10_loadDual (post : Int32 → Int32 → (Nat → Int32) → (Nat → Int32) → (Nat → Int32) → Prop) (f_edits : Int32) (a_now : Nat → Int32) (a_history : Nat → Int32) (a_over : Nat → Int32) : Prop := (wp_X10_column (fun (r_2 : Int32) (a_over_1 : Nat → Int32) => ((r_2 = (-4) → (vp_in 84 88 ∧ (∀ x1_4 : Int32, x1_4 = a_now (84 : Int32).toNatClampNeg → (wp_X10_loads (fun (f_edits_5 : Int32) (a_now_6 : Nat → Int32) (a_history_7 : Nat → Int32) => (∃ fu_17 : Nat, wp_X10_loadDual_L27 (fun (a_now_16 : Nat → Int32) => (post x1_4 f_edits_5 a_now_16 a_history_7 a_over_1)) x1_4 a_over_1 fu_17 0 a_now_6)) f_edits a_now a_history x1_4)))) ∧ (¬ r_2 = (-4) → (post (-2) f_edits a_now a_history a_over_1)))) a_now a_over)
set_option maxHeartbeats 4000000 in
set_option maxRecDepth 100000 in
theorem l_X10_loadDual_34 {p : Program} {l : Launch} {e : Env} {s : State} {m : MethodId} {args : Array Value} {below : List Frame} {meth : Method} {c : Code} {G : qn_G} {A : Nat → Prop} {h_this h_now h_history h_over h_order h_colors h_row h_three h_seen h_group : Nat} {f_edits : Int32} {f_total : Int32} {a_history : Nat → Int32} {a_over : Nat → Int32} {x1 : Int32} {x2 : Int32} {post : Int32 → Int32 → (Nat → Int32) → (Nat → Int32) → (Nat → Int32) → Prop} {KL34 : (Nat → Int32) → Prop} (C0 : qn_C p m c cX10_loadDual 4 s args wsX10_loadDual RX10 meth (some .int)) (hE : qn_EV G s) (hA : ∀ q, s.heap.size ≤ q → A q) (hKc : ∀ (a_now : Nat → Int32), KL34 a_now → ∀ (H : Heap) (locs : List Loc) (ls : Array Slot), va_P G.1 vwCl (wd_X10_loadDual G h_this h_now h_history h_over h_order h_colors h_row h_three h_seen h_group f_edits f_total a_now a_history a_over) H → va_D A (wd_X10_loadDual G h_this h_now h_history h_over h_order h_colors h_row h_three h_seen h_group f_edits f_total a_now a_history a_over) → va_S A s.heap H locs → lv_has ls 4 [(0, .ref h_this), (1, .int x1), (2, .int x2)] → W p l e (headSpec wsX10_loadDual rm_X10_loadDual).room s m args below meth c H locs 0 0 (MQ below (qn_QI G (fun (r : Int32) (u : Int32 × (Nat → Int32) × (Nat → Int32) × (Nat → Int32)) => post r u.1 u.2.1 u.2.2.1 u.2.2.2) (fun u : Int32 × (Nat → Int32) × (Nat → Int32) × (Nat → Int32) => wd_X10_loadDual G h_this h_now h_history h_over h_order h_colors h_row h_three h_seen h_group (u.1) f_total (u.2.1) (u.2.2.1) (u.2.2.2)) A) args s 0 0 A) (F0 m 67 ls [])) :
    ∀ (fu : Nat) (x3 : Int32) (a_now : Nat → Int32), wp_X10_loadDual_L34 KL34 x1 x2 a_over fu x3 a_now → ∀ (H : Heap) (locs : List Loc) (ls : Array Slot), va_P G.1 vwCl (wd_X10_loadDual G h_this h_now h_history h_over h_order h_colors h_row h_three h_seen h_group f_edits f_total a_now a_history a_over) H → va_D A (wd_X10_loadDual G h_this h_now h_history h_over h_order h_colors h_row h_three h_seen h_group f_edits f_total a_now a_history a_over) → va_S A s.heap H locs → lv_has ls 4 [(0, .ref h_this), (1, .int x1), (2, .int x2), (3, .int x3)] → W p l e (headSpec wsX10_loadDual rm_X10_loadDual).room s m args below meth c H locs 0 0 (MQ below (qn_QI G (fun (r : Int32) (u : Int32 × (Nat → Int32) × (Nat → Int32) × (Nat → Int32)) => post r u.1 u.2.1 u.2.2.1 u.2.2.2) (fun u : Int32 × (Nat → Int32) × (Nat → Int32) × (Nat → Int32) => wd_X10_loadDual G h_this h_now h_history h_over h_order h_colors h_row h_three h_seen h_group (u.1) f_total (u.2.1) (u.2.2.1) (u.2.2.2)) A) args s 0 0 A) (F0 m 34 ls []) := by
  obtain ⟨hx, hb, hml, hown, hts, hr, hlocks⟩ := id C0
  intro fu
  induction fu with
  | zero => intro x3 a_now hw; exact hw.elim
  | succ fu ih =>
    intro x3 a_now hw H locs ls hP hD hS hl
    refine lv_iload_n hx hb dX10_loadDual_34 rfl (lv_at hl 3 rfl) ?_
    refine lv_iload_n hx hb dX10_loadDual_35 rfl (lv_at hl 1 rfl) ?_
    refine lv_icmp_ge (tgt := 67) hx hb dX10_loadDual_36 (by decide) (fun c_10 => ?_) (fun c_10 => ?_)
    · have hw := hw.1 c_10
      exact hKc a_now hw _ _ _ hP hD hS (lv_sub hl [0, 1, 2] rfl)
    · have hw := hw.2 c_10
      refine lv_aload_n hx hb dX10_loadDual_39 rfl (lv_at hl 0 rfl) ?_
      refine va_get (D := G.1) (ci := 10) (v := .ref h_now) (C := RX10) (T := TX10) (N := 11) hx hb hts in_X10_loadDual_X10 hown hE.1 hP 0 rfl rfl 0 (by decide) (hts (.fieldLink RX10 7 "QuandleColoringsModel" "now" "[I") lk_X10_loadDual_7) (fun _ h9 => h9) rfl dX10_loadDual_40 ?_
      refine lv_bipush (v := 6) hx hb dX10_loadDual_43 (by decide) ?_
      refine lv_iload_n hx hb dX10_loadDual_45 rfl (lv_at hl 2 rfl) ?_
      refine lv_imul hx hb dX10_loadDual_46 ?_
      refine lv_iload_n hx hb dX10_loadDual_47 rfl (lv_at hl 3 rfl) ?_
      refine lv_iadd hx hb dX10_loadDual_48 ?_
      refine lv_aload_n hx hb dX10_loadDual_49 rfl (lv_at hl 0 rfl) ?_
      refine va_get (D := G.1) (ci := 10) (v := .ref h_over) (C := RX10) (T := TX10) (N := 11) hx hb hts in_X10_loadDual_X10 hown hE.1 hP 0 rfl rfl 3 (by decide) (hts (.fieldLink RX10 16 "QuandleColoringsModel" "over" "[I") lk_X10_loadDual_16) (fun _ h9 => h9) rfl dX10_loadDual_50 ?_
      refine lv_bipush (v := 6) hx hb dX10_loadDual_53 (by decide) ?_
      refine lv_iload_n hx hb dX10_loadDual_55 rfl (lv_at hl 2 rfl) ?_
      refine lv_imul hx hb dX10_loadDual_56 ?_
      refine lv_iload_n hx hb dX10_loadDual_57 rfl (lv_at hl 3 rfl) ?_
      refine lv_iadd hx hb dX10_loadDual_58 ?_
      have hin := hw.1
      have hw := hw.2
      refine va_iald hx hb hE.1 hP 3 0 rfl rfl hin dX10_loadDual_59 ?_
      have hin := hw.1
      have hw := hw.2
      obtain ⟨a_now_11, ea_now_11⟩ : ∃ y : Nat → Int32, y = upd a_now ((6 * x2) + x3).toNatClampNeg (a_over ((6 * x2) + x3).toNatClampNeg) := ⟨_, rfl⟩
      have hw := hw a_now_11 ea_now_11
      refine va_iast hx hb hE.1 hP hD hS 1 0 rfl rfl hin dX10_loadDual_60 (fun H locs hP hD hS => ?_)
      rw [← ea_now_11] at hP hD
      have hP : va_P G.1 vwCl (wd_X10_loadDual G h_this h_now h_history h_over h_order h_colors h_row h_three h_seen h_group f_edits f_total a_now_11 a_history a_over) H := hP
      have hD : va_D A (wd_X10_loadDual G h_this h_now h_history h_over h_order h_colors h_row h_three h_seen h_group f_edits f_total a_now_11 a_history a_over) := hD
      obtain ⟨x3_12, ex3_12⟩ : ∃ y : Int32, y = x3 + 1 := ⟨_, rfl⟩
      have hw := hw x3_12 ex3_12
      refine lv_iinc (v := x3_12) (lv' := [(3, .int x3_12), (0, .ref h_this), (1, .int x1), (2, .int x2)]) hx hb dX10_loadDual_61 hl (k := 3) rfl (by rw [ex3_12]; rfl) (by decide) rfl (fun ls hl => ?_)
      refine lv_goto (tgt := 34) hx hb dX10_loadDual_64 (by decide) ?_
      exact ih x3_12 a_now_11 hw _ _ _ hP hD hS (lv_sub hl [1, 2, 3, 0] rfl)
set_option maxHeartbeats 4000000 in
set_option maxRecDepth 100000 in
theorem l_X10_loadDual_27 {p : Program} {l : Launch} {e : Env} {s : State} {m : MethodId} {args : Array Value} {below : List Frame} {meth : Method} {c : Code} {G : qn_G} {A : Nat → Prop} {h_this h_now h_history h_over h_order h_colors h_row h_three h_seen h_group : Nat} {f_edits : Int32} {f_total : Int32} {a_history : Nat → Int32} {a_over : Nat → Int32} {x1 : Int32} {post : Int32 → Int32 → (Nat → Int32) → (Nat → Int32) → (Nat → Int32) → Prop} {KL27 : (Nat → Int32) → Prop} (C0 : qn_C p m c cX10_loadDual 4 s args wsX10_loadDual RX10 meth (some .int)) (hE : qn_EV G s) (hA : ∀ q, s.heap.size ≤ q → A q) (hKc : ∀ (a_now : Nat → Int32), KL27 a_now → ∀ (H : Heap) (locs : List Loc) (ls : Array Slot), va_P G.1 vwCl (wd_X10_loadDual G h_this h_now h_history h_over h_order h_colors h_row h_three h_seen h_group f_edits f_total a_now a_history a_over) H → va_D A (wd_X10_loadDual G h_this h_now h_history h_over h_order h_colors h_row h_three h_seen h_group f_edits f_total a_now a_history a_over) → va_S A s.heap H locs → lv_has ls 4 [(1, .int x1)] → W p l e (headSpec wsX10_loadDual rm_X10_loadDual).room s m args below meth c H locs 0 0 (MQ below (qn_QI G (fun (r : Int32) (u : Int32 × (Nat → Int32) × (Nat → Int32) × (Nat → Int32)) => post r u.1 u.2.1 u.2.2.1 u.2.2.2) (fun u : Int32 × (Nat → Int32) × (Nat → Int32) × (Nat → Int32) => wd_X10_loadDual G h_this h_now h_history h_over h_order h_colors h_row h_three h_seen h_group (u.1) f_total (u.2.1) (u.2.2.1) (u.2.2.2)) A) args s 0 0 A) (F0 m 73 ls [])) :
    ∀ (fu : Nat) (x2 : Int32) (a_now : Nat → Int32), wp_X10_loadDual_L27 KL27 x1 a_over fu x2 a_now → ∀ (H : Heap) (locs : List Loc) (ls : Array Slot), va_P G.1 vwCl (wd_X10_loadDual G h_this h_now h_history h_over h_order h_colors h_row h_three h_seen h_group f_edits f_total a_now a_history a_over) H → va_D A (wd_X10_loadDual G h_this h_now h_history h_over h_order h_colors h_row h_three h_seen h_group f_edits f_total a_now a_history a_over) → va_S A s.heap H locs → lv_has ls 4 [(0, .ref h_this), (1, .int x1), (2, .int x2)] → W p l e (headSpec wsX10_loadDual rm_X10_loadDual).room s m args below meth c H locs 0 0 (MQ below (qn_QI G (fun (r : Int32) (u : Int32 × (Nat → Int32) × (Nat → Int32) × (Nat → Int32)) => post r u.1 u.2.1 u.2.2.1 u.2.2.2) (fun u : Int32 × (Nat → Int32) × (Nat → Int32) × (Nat → Int32) => wd_X10_loadDual G h_this h_now h_history h_over h_order h_colors h_row h_three h_seen h_group (u.1) f_total (u.2.1) (u.2.2.1) (u.2.2.2)) A) args s 0 0 A) (F0 m 27 ls []) := by
  obtain ⟨hx, hb, hml, hown, hts, hr, hlocks⟩ := id C0
  intro fu
  induction fu with
  | zero => intro x2 a_now hw; exact hw.elim
  | succ fu ih =>
    intro x2 a_now hw H locs ls hP hD hS hl
    refine lv_iload_n hx hb dX10_loadDual_27 rfl (lv_at hl 2 rfl) ?_
    refine lv_iload_n hx hb dX10_loadDual_28 rfl (lv_at hl 1 rfl) ?_
    refine lv_icmp_ge (tgt := 73) hx hb dX10_loadDual_29 (by decide) (fun c_9 => ?_) (fun c_9 => ?_)
    · have hw := hw.1 c_9
      exact hKc a_now hw _ _ _ hP hD hS (lv_sub hl [1] rfl)
    · have hw := hw.2 c_9
      refine lv_iconst (v := 0) hx hb dX10_loadDual_32 (by decide) ?_
      refine lv_istore_n (lv' := [(3, .int 0), (0, .ref h_this), (1, .int x1), (2, .int x2)]) hx hb dX10_loadDual_33 rfl hl (by decide) rfl (fun ls hl => ?_)
      obtain ⟨fu_15, hw⟩ := hw
      refine l_X10_loadDual_34 (post := post) C0 hE hA (fun a_now_13 hw H locs ls hP hD hS hl => ?_) fu_15 0 a_now hw _ _ _ hP hD hS (lv_sub hl [1, 2, 3, 0] rfl)
      obtain ⟨x2_14, ex2_14⟩ : ∃ y : Int32, y = x2 + 1 := ⟨_, rfl⟩
      have hw := hw x2_14 ex2_14
      refine lv_iinc (v := x2_14) (lv' := [(2, .int x2_14), (0, .ref h_this), (1, .int x1)]) hx hb dX10_loadDual_67 hl (k := 2) rfl (by rw [ex2_14]; rfl) (by decide) rfl (fun ls hl => ?_)
      refine lv_goto (tgt := 27) hx hb dX10_loadDual_70 (by decide) ?_
      exact ih x2_14 a_now_13 hw _ _ _ hP hD hS (lv_sub hl [1, 2, 0] rfl)
set_option maxHeartbeats 4000000 in
set_option maxRecDepth 100000 in
theorem c_X10_loadDual {l : Launch} (G : qn_G) (sz : Nat) (h_this h_now h_history h_over h_order h_colors h_row h_three h_seen h_group : Nat) (f_edits : Int32) (f_total : Int32) (a_now : Nat → Int32) (a_history : Nat → Int32) (a_over : Nat → Int32) {post : Int32 → Int32 → (Nat → Int32) → (Nat → Int32) → (Nat → Int32) → Prop} (hw : wp_X10_loadDual post f_edits a_now a_history a_over) : Met l yX10_loadDual wsX10_loadDual rm_X10_loadDual (qn_PC G [.ref h_this] sz (wd_X10_loadDual G h_this h_now h_history h_over h_order h_colors h_row h_three h_seen h_group f_edits f_total a_now a_history a_over)) (qn_QI G (fun (r : Int32) (u : Int32 × (Nat → Int32) × (Nat → Int32) × (Nat → Int32)) => post r u.1 u.2.1 u.2.2.1 u.2.2.2) (fun u : Int32 × (Nat → Int32) × (Nat → Int32) × (Nat → Int32) => wd_X10_loadDual G h_this h_now h_history h_over h_order h_colors h_row h_three h_seen h_group (u.1) f_total (u.2.1) (u.2.2.1) (u.2.2.2)) (va_A (wd_X10_loadDual G h_this h_now h_history h_over h_order h_colors h_row h_three h_seen h_group f_edits f_total a_now a_history a_over) sz)) 0 0 (va_A (wd_X10_loadDual G h_this h_now h_history h_over h_order h_colors h_row h_three h_seen h_group f_edits f_total a_now a_history a_over) sz) := by
  refine Met.ofW (cc := cX10_loadDual) (maxL := 4) (ret := (some .int)) (by decide) rfl ?_
  intro p e s m args below meth c s₁ B hml hv
  obtain ⟨rfl, hsz, hP, hE, hD0⟩ := hv
  have C0 : qn_C p m c cX10_loadDual 4 s _ wsX10_loadDual RX10 meth (some .int) := qn_C0 B hml
  obtain ⟨hx, hb, -, hown, hts, hr, hlocks⟩ := id C0
  subst hsz
  have hD := hD0.self (sz := s.heap.size)
  generalize hAe : va_A (wd_X10_loadDual G h_this h_now h_history h_over h_order h_colors h_row h_three h_seen h_group f_edits f_total a_now a_history a_over) s.heap.size = A at hD ⊢
  have hA : ∀ q : Nat, s.heap.size ≤ q → A q := fun q h => by rw [← hAe]; exact Or.inr h
  clear hAe
  have hS : va_S A s.heap s.heap [] := va_S.rf
  have hl := lv_entry ([.ref h_this]) (n := 4) (Nat.le_of_ble_eq_true rfl)
  rw [lg_entry_eq]
  generalize (lg_sl ([.ref h_this]) ++ List.replicate (4 - (lg_sl ([.ref h_this])).length) Slot.unset).toArray = ls at hl ⊢
  have hl : lv_has ls 4 [(0, .ref h_this)] := hl
  have hP : va_P G.1 vwCl (wd_X10_loadDual G h_this h_now h_history h_over h_order h_colors h_row h_three h_seen h_group f_edits f_total a_now a_history a_over) s.heap := hP
  refine lv_aload_n hx hb dX10_loadDual_0 rfl (lv_at hl 0 rfl) ?_
  have hC9 : ([0, 1, 3]).map (fun i => (wd_X10_loadDual G h_this h_now h_history h_over h_order h_colors h_row h_three h_seen h_group f_edits f_total a_now a_history a_over)[i]?) = (wd_X10_column G h_this h_now h_history h_over h_order h_colors h_row h_three h_seen h_group f_edits f_total a_now a_over).map some := rfl
  refine qn_callI (wd := (fun u : (Nat → Int32) => wd_X10_loadDual G h_this h_now h_history h_over h_order h_colors h_row h_three h_seen h_group f_edits f_total a_now a_history u)) [0, 1, 3] (va_runV (As := []) (rest := []) ⟨hx, hb, hml, hown, hts⟩ (c_X10_column G _ h_this h_now h_history h_over h_order h_colors h_row h_three h_seen h_group f_edits f_total a_now a_over hw) (cwV 0 hts gX10_loadDual_X10_column rfl rfl rfl (by decide +kernel) ⟨Nat.le_of_ble_eq_true rfl, Nat.le_of_ble_eq_true rfl⟩) (qn_preV hE hP hD [0, 1, 3] hC9 (by decide +kernel) (ci := 10) rfl rfl) rfl rfl hl.1 rfl (lv_room (Nat.le_of_ble_eq_true rfl)) dX10_loadDual_1 ⟨Nat.le_of_ble_eq_true rfl, Nat.le_of_ble_eq_true rfl⟩) hP hD hS hA hC9 [some 0, some 1, none, some 2] (M := 4) rfl (by decide +kernel) (fun _ => rfl) (fun _ => rfl) (fun r_2 a_over_1 H locs hw hP hD hS => ?_)
  try dsimp only at hw
  have hP : va_P G.1 vwCl (wd_X10_loadDual G h_this h_now h_history h_over h_order h_colors h_row h_three h_seen h_group f_edits f_total a_now a_history a_over_1) H := hP
  have hD : va_D A (wd_X10_loadDual G h_this h_now h_history h_over h_order h_colors h_row h_three h_seen h_group f_edits f_total a_now a_history a_over_1) := hD
  refine lv_bipush (v := (-4)) hx hb dX10_loadDual_4 (by decide) ?_
  refine lv_icmp_eq (tgt := 12) hx hb dX10_loadDual_6 (by decide) (fun c_3 => ?_) (fun c_3 => ?_)
  · have hw := hw.1 c_3
    refine lv_aload_n hx hb dX10_loadDual_12 rfl (lv_at hl 0 rfl) ?_
    refine va_get (D := G.1) (ci := 10) (v := .ref h_now) (C := RX10) (T := TX10) (N := 11) hx hb hts in_X10_loadDual_X10 hown hE.1 hP 0 rfl rfl 0 (by decide) (hts (.fieldLink RX10 7 "QuandleColoringsModel" "now" "[I") lk_X10_loadDual_7) (fun _ h9 => h9) rfl dX10_loadDual_13 ?_
    refine lv_bipush (v := 84) hx hb dX10_loadDual_16 (by decide) ?_
    have hin := hw.1
    have hw := hw.2
    refine va_iald hx hb hE.1 hP 1 0 rfl rfl hin dX10_loadDual_18 ?_
    refine lv_topi (fun x1_4 ex1_4 => ?_)
    have hw := hw x1_4 ex1_4
    refine lv_istore_n (lv' := [(1, .int x1_4), (0, .ref h_this)]) hx hb dX10_loadDual_19 rfl hl (by decide) rfl (fun ls hl => ?_)
    refine lv_aload_n hx hb dX10_loadDual_20 rfl (lv_at hl 1 rfl) ?_
    refine lv_iload_n hx hb dX10_loadDual_21 rfl (lv_at hl 0 rfl) ?_
    have hC9 : ([0, 1, 2]).map (fun i => (wd_X10_loadDual G h_this h_now h_history h_over h_order h_colors h_row h_three h_seen h_group f_edits f_total a_now a_history a_over_1)[i]?) = (wd_X10_loads G h_this h_now h_history h_over h_order h_colors h_row h_three h_seen h_group f_edits f_total a_now a_history).map some := rfl
    refine qn_callV (wd := (fun u : Int32 × (Nat → Int32) × (Nat → Int32) => wd_X10_loadDual G h_this h_now h_history h_over h_order h_colors h_row h_three h_seen h_group (u.1) f_total (u.2.1) (u.2.2) a_over_1)) [0, 1, 2] (va_runV (As := [.int x1_4]) (rest := []) ⟨hx, hb, hml, hown, hts⟩ (c_X10_loads G _ h_this h_now h_history h_over h_order h_colors h_row h_three h_seen h_group f_edits f_total a_now a_history x1_4 hw) (cwV 1 hts gX10_loadDual_X10_loads rfl rfl rfl (by decide +kernel) ⟨Nat.le_of_ble_eq_true rfl, Nat.le_of_ble_eq_true rfl⟩) (qn_preV hE hP hD [0, 1, 2] hC9 (by decide +kernel) (ci := 10) rfl rfl) rfl rfl hl.1 rfl (lv_room (Nat.le_of_ble_eq_true rfl)) dX10_loadDual_22 ⟨Nat.le_of_ble_eq_true rfl, Nat.le_of_ble_eq_true rfl⟩) hP hD hS hA hC9 [some 0, some 1, some 2, none] (M := 4) rfl (by decide +kernel) (fun _ => rfl) (fun _ => rfl) (fun u_8 H locs hw hP hD hS => ?_)
    obtain ⟨f_edits_5, a_now_6, a_history_7⟩ := u_8
    try dsimp only at hw
    have hP : va_P G.1 vwCl (wd_X10_loadDual G h_this h_now h_history h_over h_order h_colors h_row h_three h_seen h_group f_edits_5 f_total a_now_6 a_history_7 a_over_1) H := hP
    have hD : va_D A (wd_X10_loadDual G h_this h_now h_history h_over h_order h_colors h_row h_three h_seen h_group f_edits_5 f_total a_now_6 a_history_7 a_over_1) := hD
    refine lv_iconst (v := 0) hx hb dX10_loadDual_25 (by decide) ?_
    refine lv_istore_n (lv' := [(2, .int 0), (1, .int x1_4), (0, .ref h_this)]) hx hb dX10_loadDual_26 rfl hl (by decide) rfl (fun ls hl => ?_)
    obtain ⟨fu_17, hw⟩ := hw
    refine l_X10_loadDual_27 (post := post) C0 hE hA (fun a_now_16 hw H locs ls hP hD hS hl => ?_) fu_17 0 a_now_6 hw _ _ _ hP hD hS (lv_sub hl [2, 1, 0] rfl)
    refine lv_iload_n hx hb dX10_loadDual_73 rfl (lv_at hl 0 rfl) ?_
    exact W.iret (v := x1_4) hx hb hr (fun t ht hW => ⟨⟨x1_4, (f_edits_5, a_now_16, a_history_7, a_over_1), rfl, hw, by rw [ht]; exact hP, hD⟩, hS.F ht⟩) hS.2.2 dX10_loadDual_74
  · have hw := hw.2 c_3
    refine lv_bipush (v := (-2)) hx hb dX10_loadDual_9 (by decide) ?_
    exact W.iret (v := (-2)) hx hb hr (fun t ht hW => ⟨⟨(-2), (f_edits, a_now, a_history, a_over_1), rfl, hw, by rw [ht]; exact hP, hD⟩, hS.F ht⟩) hS.2.2 dX10_loadDual_11
-- QuandleColoringsModel.setEntry(III)I
abbrev rm_X10_setEntry : Room := { frames := 2, cells := 0, slots := 0, locals := 43 }
abbrev wd_X10_setEntry (G : qn_G) (h_this h_now h_history h_over h_order h_colors h_row h_three h_seen h_group : Nat) (f_edits : Int32) (f_total : Int32) (a_now : Nat → Int32) (a_history : Nat → Int32) : va_W := [(h_this, .inr (10, [.ref h_now, .ref h_history, .int f_edits, .ref h_over, .ref h_order, .ref h_colors, .int f_total, .ref h_row, .ref h_three, .ref h_seen, .ref h_group])), (h_now, .inl (G.2.1, 88, .inl a_now)), (h_history, .inl (G.2.1, 440, .inl a_history))]
theorem in_X10_setEntry_X10 : ∀ w ∈ u_ws RX10 TX10 11, w ∈ wsX10_setEntry := by decide +kernel
theorem lk_X10_setEntry_7 : Cond.fieldLink RX10 7 "QuandleColoringsModel" "now" "[I" ∈ wsX10_setEntry := by decide +kernel
def wp_X10_setEntry (post : Int32 → Int32 → (Nat → Int32) → (Nat → Int32) → Prop) (f_edits : Int32) (a_now : Nat → Int32) (a_history : Nat → Int32) (x1 : Int32) (x2 : Int32) (x3 : Int32) : Prop := (wp_X10_isElement (fun (r_1 : Int32) => ((r_1 = 0 → (post (-1) f_edits a_now a_history)) ∧ (¬ r_1 = 0 → (wp_X10_isElement (fun (r_3 : Int32) => ((r_3 = 0 → (post (-1) f_edits a_now a_history)) ∧ (¬ r_3 = 0 → (wp_X10_isElement (fun (r_5 : Int32) => ((¬ r_5 = 0 → (wp_X10_edit (fun (f_edits_7 : Int32) (a_history_8 : Nat → Int32) => (vp_in ((6 * x1) + x2) 88 ∧ (∀ x4_10 : Int32, x4_10 = a_now ((6 * x1) + x2).toNatClampNeg → (vp_in ((6 * x1) + x2) 88 ∧ (∀ a_now_11 : Nat → Int32, a_now_11 = upd a_now ((6 * x1) + x2).toNatClampNeg x3 → (post x4_10 f_edits_7 a_now_11 a_history_8)))))) f_edits a_now a_history)) ∧ (r_5 = 0 → (post (-1) f_edits a_now a_history)))) a_now x3)))) a_now x2)))) a_now x1)
set_option maxHeartbeats 4000000 in
set_option maxRecDepth 100000 in
theorem c_X10_setEntry {l : Launch} (G : qn_G) (sz : Nat) (h_this h_now h_history h_over h_order h_colors h_row h_three h_seen h_group : Nat) (f_edits : Int32) (f_total : Int32) (a_now : Nat → Int32) (a_history : Nat → Int32) (x1 : Int32) (x2 : Int32) (x3 : Int32) {post : Int32 → Int32 → (Nat → Int32) → (Nat → Int32) → Prop} (hw : wp_X10_setEntry post f_edits a_now a_history x1 x2 x3) : Met l yX10_setEntry wsX10_setEntry rm_X10_setEntry (qn_PC G [.ref h_this, .int x1, .int x2, .int x3] sz (wd_X10_setEntry G h_this h_now h_history h_over h_order h_colors h_row h_three h_seen h_group f_edits f_total a_now a_history)) (qn_QI G (fun (r : Int32) (u : Int32 × (Nat → Int32) × (Nat → Int32)) => post r u.1 u.2.1 u.2.2) (fun u : Int32 × (Nat → Int32) × (Nat → Int32) => wd_X10_setEntry G h_this h_now h_history h_over h_order h_colors h_row h_three h_seen h_group (u.1) f_total (u.2.1) (u.2.2)) (va_A (wd_X10_setEntry G h_this h_now h_history h_over h_order h_colors h_row h_three h_seen h_group f_edits f_total a_now a_history) sz)) 0 0 (va_A (wd_X10_setEntry G h_this h_now h_history h_over h_order h_colors h_row h_three h_seen h_group f_edits f_total a_now a_history) sz) := by
  refine Met.ofW (cc := cX10_setEntry) (maxL := 5) (ret := (some .int)) (by decide) rfl ?_
  intro p e s m args below meth c s₁ B hml hv
  obtain ⟨rfl, hsz, hP, hE, hD0⟩ := hv
  have C0 : qn_C p m c cX10_setEntry 5 s _ wsX10_setEntry RX10 meth (some .int) := qn_C0 B hml
  obtain ⟨hx, hb, -, hown, hts, hr, hlocks⟩ := id C0
  subst hsz
  have hD := hD0.self (sz := s.heap.size)
  generalize hAe : va_A (wd_X10_setEntry G h_this h_now h_history h_over h_order h_colors h_row h_three h_seen h_group f_edits f_total a_now a_history) s.heap.size = A at hD ⊢
  have hA : ∀ q : Nat, s.heap.size ≤ q → A q := fun q h => by rw [← hAe]; exact Or.inr h
  clear hAe
  have hS : va_S A s.heap s.heap [] := va_S.rf
  have hl := lv_entry ([.ref h_this, .int x1, .int x2, .int x3]) (n := 5) (Nat.le_of_ble_eq_true rfl)
  rw [lg_entry_eq]
  generalize (lg_sl ([.ref h_this, .int x1, .int x2, .int x3]) ++ List.replicate (5 - (lg_sl ([.ref h_this, .int x1, .int x2, .int x3])).length) Slot.unset).toArray = ls at hl ⊢
  have hl : lv_has ls 5 [(0, .ref h_this), (1, .int x1), (2, .int x2), (3, .int x3)] := hl
  have hP : va_P G.1 vwCl (wd_X10_setEntry G h_this h_now h_history h_over h_order h_colors h_row h_three h_seen h_group f_edits f_total a_now a_history) s.heap := hP
  refine lv_aload_n hx hb dX10_setEntry_0 rfl (lv_at hl 0 rfl) ?_
  refine lv_iload_n hx hb dX10_setEntry_1 rfl (lv_at hl 1 rfl) ?_
  have hC9 : ([0, 1]).map (fun i => (wd_X10_setEntry G h_this h_now h_history h_over h_order h_colors h_row h_three h_seen h_group f_edits f_total a_now a_history)[i]?) = (wd_X10_isElement G h_this h_now h_history h_over h_order h_colors h_row h_three h_seen h_group f_edits f_total a_now).map some := rfl
  refine qn_callI (wd := (fun u : Unit => wd_X10_setEntry G h_this h_now h_history h_over h_order h_colors h_row h_three h_seen h_group f_edits f_total a_now a_history)) [0, 1] (va_runV (As := [.int x1]) (rest := []) ⟨hx, hb, hml, hown, hts⟩ (c_X10_isElement G _ h_this h_now h_history h_over h_order h_colors h_row h_three h_seen h_group f_edits f_total a_now x1 hw) (cwV 1 hts gX10_setEntry_X10_isElement rfl rfl rfl (by decide +kernel) ⟨Nat.le_of_ble_eq_true rfl, Nat.le_of_ble_eq_true rfl⟩) (qn_preV hE hP hD [0, 1] hC9 (by decide +kernel) (ci := 10) rfl rfl) rfl rfl hl.1 rfl (lv_room (Nat.le_of_ble_eq_true rfl)) dX10_setEntry_2 ⟨Nat.le_of_ble_eq_true rfl, Nat.le_of_ble_eq_true rfl⟩) hP hD hS hA hC9 [some 0, some 1, none] (M := 3) rfl (by decide +kernel) (fun _ => rfl) (fun _ => rfl) (fun r_1 _ H locs hw hP hD hS => ?_)
  try dsimp only at hw
  have hP : va_P G.1 vwCl (wd_X10_setEntry G h_this h_now h_history h_over h_order h_colors h_row h_three h_seen h_group f_edits f_total a_now a_history) H := hP
  have hD : va_D A (wd_X10_setEntry G h_this h_now h_history h_over h_order h_colors h_row h_three h_seen h_group f_edits f_total a_now a_history) := hD
  refine lv_if_eq (tgt := 24) hx hb dX10_setEntry_5 (by decide) (fun c_2 => ?_) (fun c_2 => ?_)
  · have hw := hw.1 c_2
    refine lv_iconst (v := (-1)) hx hb dX10_setEntry_24 (by decide) ?_
    exact W.iret (v := (-1)) hx hb hr (fun t ht hW => ⟨⟨(-1), (f_edits, a_now, a_history), rfl, hw, by rw [ht]; exact hP, hD⟩, hS.F ht⟩) hS.2.2 dX10_setEntry_25
  · have hw := hw.2 c_2
    refine lv_aload_n hx hb dX10_setEntry_8 rfl (lv_at hl 0 rfl) ?_
    refine lv_iload_n hx hb dX10_setEntry_9 rfl (lv_at hl 2 rfl) ?_
    have hC9 : ([0, 1]).map (fun i => (wd_X10_setEntry G h_this h_now h_history h_over h_order h_colors h_row h_three h_seen h_group f_edits f_total a_now a_history)[i]?) = (wd_X10_isElement G h_this h_now h_history h_over h_order h_colors h_row h_three h_seen h_group f_edits f_total a_now).map some := rfl
    refine qn_callI (wd := (fun u : Unit => wd_X10_setEntry G h_this h_now h_history h_over h_order h_colors h_row h_three h_seen h_group f_edits f_total a_now a_history)) [0, 1] (va_runV (As := [.int x2]) (rest := []) ⟨hx, hb, hml, hown, hts⟩ (c_X10_isElement G _ h_this h_now h_history h_over h_order h_colors h_row h_three h_seen h_group f_edits f_total a_now x2 hw) (cwV 1 hts gX10_setEntry_X10_isElement rfl rfl rfl (by decide +kernel) ⟨Nat.le_of_ble_eq_true rfl, Nat.le_of_ble_eq_true rfl⟩) (qn_preV hE hP hD [0, 1] hC9 (by decide +kernel) (ci := 10) rfl rfl) rfl rfl hl.1 rfl (lv_room (Nat.le_of_ble_eq_true rfl)) dX10_setEntry_10 ⟨Nat.le_of_ble_eq_true rfl, Nat.le_of_ble_eq_true rfl⟩) hP hD hS hA hC9 [some 0, some 1, none] (M := 3) rfl (by decide +kernel) (fun _ => rfl) (fun _ => rfl) (fun r_3 _ H locs hw hP hD hS => ?_)
    try dsimp only at hw
    have hP : va_P G.1 vwCl (wd_X10_setEntry G h_this h_now h_history h_over h_order h_colors h_row h_three h_seen h_group f_edits f_total a_now a_history) H := hP
    have hD : va_D A (wd_X10_setEntry G h_this h_now h_history h_over h_order h_colors h_row h_three h_seen h_group f_edits f_total a_now a_history) := hD
    refine lv_if_eq (tgt := 24) hx hb dX10_setEntry_13 (by decide) (fun c_4 => ?_) (fun c_4 => ?_)
    · have hw := hw.1 c_4
      refine lv_iconst (v := (-1)) hx hb dX10_setEntry_24 (by decide) ?_
      exact W.iret (v := (-1)) hx hb hr (fun t ht hW => ⟨⟨(-1), (f_edits, a_now, a_history), rfl, hw, by rw [ht]; exact hP, hD⟩, hS.F ht⟩) hS.2.2 dX10_setEntry_25
    · have hw := hw.2 c_4
      refine lv_aload_n hx hb dX10_setEntry_16 rfl (lv_at hl 0 rfl) ?_
      refine lv_iload_n hx hb dX10_setEntry_17 rfl (lv_at hl 3 rfl) ?_
      have hC9 : ([0, 1]).map (fun i => (wd_X10_setEntry G h_this h_now h_history h_over h_order h_colors h_row h_three h_seen h_group f_edits f_total a_now a_history)[i]?) = (wd_X10_isElement G h_this h_now h_history h_over h_order h_colors h_row h_three h_seen h_group f_edits f_total a_now).map some := rfl
      refine qn_callI (wd := (fun u : Unit => wd_X10_setEntry G h_this h_now h_history h_over h_order h_colors h_row h_three h_seen h_group f_edits f_total a_now a_history)) [0, 1] (va_runV (As := [.int x3]) (rest := []) ⟨hx, hb, hml, hown, hts⟩ (c_X10_isElement G _ h_this h_now h_history h_over h_order h_colors h_row h_three h_seen h_group f_edits f_total a_now x3 hw) (cwV 1 hts gX10_setEntry_X10_isElement rfl rfl rfl (by decide +kernel) ⟨Nat.le_of_ble_eq_true rfl, Nat.le_of_ble_eq_true rfl⟩) (qn_preV hE hP hD [0, 1] hC9 (by decide +kernel) (ci := 10) rfl rfl) rfl rfl hl.1 rfl (lv_room (Nat.le_of_ble_eq_true rfl)) dX10_setEntry_18 ⟨Nat.le_of_ble_eq_true rfl, Nat.le_of_ble_eq_true rfl⟩) hP hD hS hA hC9 [some 0, some 1, none] (M := 3) rfl (by decide +kernel) (fun _ => rfl) (fun _ => rfl) (fun r_5 _ H locs hw hP hD hS => ?_)
      try dsimp only at hw
      have hP : va_P G.1 vwCl (wd_X10_setEntry G h_this h_now h_history h_over h_order h_colors h_row h_three h_seen h_group f_edits f_total a_now a_history) H := hP
      have hD : va_D A (wd_X10_setEntry G h_this h_now h_history h_over h_order h_colors h_row h_three h_seen h_group f_edits f_total a_now a_history) := hD
      refine lv_if_ne (tgt := 26) hx hb dX10_setEntry_21 (by decide) (fun c_6 => ?_) (fun c_6 => ?_)
      · have hw := hw.1 c_6
        refine lv_aload_n hx hb dX10_setEntry_26 rfl (lv_at hl 0 rfl) ?_
        have hC9 : ([0, 1, 2]).map (fun i => (wd_X10_setEntry G h_this h_now h_history h_over h_order h_colors h_row h_three h_seen h_group f_edits f_total a_now a_history)[i]?) = (wd_X10_edit G h_this h_now h_history h_over h_order h_colors h_row h_three h_seen h_group f_edits f_total a_now a_history).map some := rfl
        refine qn_callV (wd := (fun u : Int32 × (Nat → Int32) => wd_X10_setEntry G h_this h_now h_history h_over h_order h_colors h_row h_three h_seen h_group (u.1) f_total a_now (u.2))) [0, 1, 2] (va_runV (As := []) (rest := []) ⟨hx, hb, hml, hown, hts⟩ (c_X10_edit G _ h_this h_now h_history h_over h_order h_colors h_row h_three h_seen h_group f_edits f_total a_now a_history hw) (cwV 0 hts gX10_setEntry_X10_edit rfl rfl rfl (by decide +kernel) ⟨Nat.le_of_ble_eq_true rfl, Nat.le_of_ble_eq_true rfl⟩) (qn_preV hE hP hD [0, 1, 2] hC9 (by decide +kernel) (ci := 10) rfl rfl) rfl rfl hl.1 rfl (lv_room (Nat.le_of_ble_eq_true rfl)) dX10_setEntry_27 ⟨Nat.le_of_ble_eq_true rfl, Nat.le_of_ble_eq_true rfl⟩) hP hD hS hA hC9 [some 0, some 1, some 2] (M := 3) rfl (by decide +kernel) (fun _ => rfl) (fun _ => rfl) (fun u_9 H locs hw hP hD hS => ?_)
        obtain ⟨f_edits_7, a_history_8⟩ := u_9
        try dsimp only at hw
        have hP : va_P G.1 vwCl (wd_X10_setEntry G h_this h_now h_history h_over h_order h_colors h_row h_three h_seen h_group f_edits_7 f_total a_now a_history_8) H := hP
        have hD : va_D A (wd_X10_setEntry G h_this h_now h_history h_over h_order h_colors h_row h_three h_seen h_group f_edits_7 f_total a_now a_history_8) := hD
        refine lv_aload_n hx hb dX10_setEntry_30 rfl (lv_at hl 0 rfl) ?_
        refine va_get (D := G.1) (ci := 10) (v := .ref h_now) (C := RX10) (T := TX10) (N := 11) hx hb hts in_X10_setEntry_X10 hown hE.1 hP 0 rfl rfl 0 (by decide) (hts (.fieldLink RX10 7 "QuandleColoringsModel" "now" "[I") lk_X10_setEntry_7) (fun _ h9 => h9) rfl dX10_setEntry_31 ?_
        refine lv_bipush (v := 6) hx hb dX10_setEntry_34 (by decide) ?_
        refine lv_iload_n hx hb dX10_setEntry_36 rfl (lv_at hl 1 rfl) ?_
        refine lv_imul hx hb dX10_setEntry_37 ?_
        refine lv_iload_n hx hb dX10_setEntry_38 rfl (lv_at hl 2 rfl) ?_
        refine lv_iadd hx hb dX10_setEntry_39 ?_
        have hin := hw.1
        have hw := hw.2
        refine va_iald hx hb hE.1 hP 1 0 rfl rfl hin dX10_setEntry_40 ?_
        refine lv_topi (fun x4_10 ex4_10 => ?_)
        have hw := hw x4_10 ex4_10
        refine lv_istore (lv' := [(4, .int x4_10), (0, .ref h_this), (1, .int x1), (2, .int x2), (3, .int x3)]) hx hb dX10_setEntry_41 hl (by decide) rfl (fun ls hl => ?_)
        refine lv_aload_n hx hb dX10_setEntry_43 rfl (lv_at hl 1 rfl) ?_
        refine va_get (D := G.1) (ci := 10) (v := .ref h_now) (C := RX10) (T := TX10) (N := 11) hx hb hts in_X10_setEntry_X10 hown hE.1 hP 0 rfl rfl 0 (by decide) (hts (.fieldLink RX10 7 "QuandleColoringsModel" "now" "[I") lk_X10_setEntry_7) (fun _ h9 => h9) rfl dX10_setEntry_44 ?_
        refine lv_bipush (v := 6) hx hb dX10_setEntry_47 (by decide) ?_
        refine lv_iload_n hx hb dX10_setEntry_49 rfl (lv_at hl 2 rfl) ?_
        refine lv_imul hx hb dX10_setEntry_50 ?_
        refine lv_iload_n hx hb dX10_setEntry_51 rfl (lv_at hl 3 rfl) ?_
        refine lv_iadd hx hb dX10_setEntry_52 ?_
        refine lv_iload_n hx hb dX10_setEntry_53 rfl (lv_at hl 4 rfl) ?_
        have hin := hw.1
        have hw := hw.2
        obtain ⟨a_now_11, ea_now_11⟩ : ∃ y : Nat → Int32, y = upd a_now ((6 * x1) + x2).toNatClampNeg x3 := ⟨_, rfl⟩
        have hw := hw a_now_11 ea_now_11
        refine va_iast hx hb hE.1 hP hD hS 1 0 rfl rfl hin dX10_setEntry_54 (fun H locs hP hD hS => ?_)
        rw [← ea_now_11] at hP hD
        have hP : va_P G.1 vwCl (wd_X10_setEntry G h_this h_now h_history h_over h_order h_colors h_row h_three h_seen h_group f_edits_7 f_total a_now_11 a_history_8) H := hP
        have hD : va_D A (wd_X10_setEntry G h_this h_now h_history h_over h_order h_colors h_row h_three h_seen h_group f_edits_7 f_total a_now_11 a_history_8) := hD
        refine lv_iload hx hb dX10_setEntry_55 (lv_at hl 0 rfl) ?_
        exact W.iret (v := x4_10) hx hb hr (fun t ht hW => ⟨⟨x4_10, (f_edits_7, a_now_11, a_history_8), rfl, hw, by rw [ht]; exact hP, hD⟩, hS.F ht⟩) hS.2.2 dX10_setEntry_57
      · have hw := hw.2 c_6
        refine lv_iconst (v := (-1)) hx hb dX10_setEntry_24 (by decide) ?_
        exact W.iret (v := (-1)) hx hb hr (fun t ht hW => ⟨⟨(-1), (f_edits, a_now, a_history), rfl, hw, by rw [ht]; exact hP, hD⟩, hS.F ht⟩) hS.2.2 dX10_setEntry_25
-- QuandleColoringsModel.size()I
abbrev rm_X10_size : Room := { frames := 0, cells := 0, slots := 0, locals := 0 }
abbrev wd_X10_size (G : qn_G) (h_this h_now h_history h_over h_order h_colors h_row h_three h_seen h_group : Nat) (f_edits : Int32) (f_total : Int32) (a_now : Nat → Int32) : va_W := [(h_this, .inr (10, [.ref h_now, .ref h_history, .int f_edits, .ref h_over, .ref h_order, .ref h_colors, .int f_total, .ref h_row, .ref h_three, .ref h_seen, .ref h_group])), (h_now, .inl (G.2.1, 88, .inl a_now))]
theorem in_X10_size_X10 : ∀ w ∈ u_ws RX10 TX10 11, w ∈ wsX10_size := by decide +kernel
theorem lk_X10_size_7 : Cond.fieldLink RX10 7 "QuandleColoringsModel" "now" "[I" ∈ wsX10_size := by decide +kernel
def wp_X10_size (post : Int32 → Prop) (a_now : Nat → Int32) : Prop := (vp_in 84 88 ∧ (post (a_now (84 : Int32).toNatClampNeg)))
set_option maxHeartbeats 4000000 in
set_option maxRecDepth 100000 in
theorem c_X10_size {l : Launch} (G : qn_G) (sz : Nat) (h_this h_now h_history h_over h_order h_colors h_row h_three h_seen h_group : Nat) (f_edits : Int32) (f_total : Int32) (a_now : Nat → Int32) {post : Int32 → Prop} (hw : wp_X10_size post a_now) : Met l yX10_size wsX10_size rm_X10_size (qn_PC G [.ref h_this] sz (wd_X10_size G h_this h_now h_history h_over h_order h_colors h_row h_three h_seen h_group f_edits f_total a_now)) (qn_QI G (fun (r : Int32) (u : Unit) => post r) (fun u : Unit => wd_X10_size G h_this h_now h_history h_over h_order h_colors h_row h_three h_seen h_group f_edits f_total a_now) (va_A (wd_X10_size G h_this h_now h_history h_over h_order h_colors h_row h_three h_seen h_group f_edits f_total a_now) sz)) 0 0 (va_A (wd_X10_size G h_this h_now h_history h_over h_order h_colors h_row h_three h_seen h_group f_edits f_total a_now) sz) := by
  refine Met.ofW (cc := cX10_size) (maxL := 1) (ret := (some .int)) (by decide) rfl ?_
  intro p e s m args below meth c s₁ B hml hv
  obtain ⟨rfl, hsz, hP, hE, hD0⟩ := hv
  have C0 : qn_C p m c cX10_size 1 s _ wsX10_size RX10 meth (some .int) := qn_C0 B hml
  obtain ⟨hx, hb, -, hown, hts, hr, hlocks⟩ := id C0
  subst hsz
  have hD := hD0.self (sz := s.heap.size)
  generalize hAe : va_A (wd_X10_size G h_this h_now h_history h_over h_order h_colors h_row h_three h_seen h_group f_edits f_total a_now) s.heap.size = A at hD ⊢
  have hA : ∀ q : Nat, s.heap.size ≤ q → A q := fun q h => by rw [← hAe]; exact Or.inr h
  clear hAe
  have hS : va_S A s.heap s.heap [] := va_S.rf
  have hl := lv_entry ([.ref h_this]) (n := 1) (Nat.le_of_ble_eq_true rfl)
  rw [lg_entry_eq]
  generalize (lg_sl ([.ref h_this]) ++ List.replicate (1 - (lg_sl ([.ref h_this])).length) Slot.unset).toArray = ls at hl ⊢
  have hl : lv_has ls 1 [(0, .ref h_this)] := hl
  have hP : va_P G.1 vwCl (wd_X10_size G h_this h_now h_history h_over h_order h_colors h_row h_three h_seen h_group f_edits f_total a_now) s.heap := hP
  refine lv_aload_n hx hb dX10_size_0 rfl (lv_at hl 0 rfl) ?_
  refine va_get (D := G.1) (ci := 10) (v := .ref h_now) (C := RX10) (T := TX10) (N := 11) hx hb hts in_X10_size_X10 hown hE.1 hP 0 rfl rfl 0 (by decide) (hts (.fieldLink RX10 7 "QuandleColoringsModel" "now" "[I") lk_X10_size_7) (fun _ h9 => h9) rfl dX10_size_1 ?_
  refine lv_bipush (v := 84) hx hb dX10_size_4 (by decide) ?_
  have hin := hw.1
  have hw := hw.2
  refine va_iald hx hb hE.1 hP 1 0 rfl rfl hin dX10_size_6 ?_
  exact W.iret (v := (a_now (84 : Int32).toNatClampNeg)) hx hb hr (fun t ht hW => ⟨⟨(a_now (84 : Int32).toNatClampNeg), (), rfl, hw, by rw [ht]; exact hP, hD⟩, hS.F ht⟩) hS.2.2 dX10_size_7
-- QuandleColoringsModel.entry(II)I
abbrev rm_X10_entry : Room := { frames := 2, cells := 0, slots := 0, locals := 43 }
abbrev wd_X10_entry (G : qn_G) (h_this h_now h_history h_over h_order h_colors h_row h_three h_seen h_group : Nat) (f_edits : Int32) (f_total : Int32) (a_now : Nat → Int32) : va_W := [(h_this, .inr (10, [.ref h_now, .ref h_history, .int f_edits, .ref h_over, .ref h_order, .ref h_colors, .int f_total, .ref h_row, .ref h_three, .ref h_seen, .ref h_group])), (h_now, .inl (G.2.1, 88, .inl a_now))]
theorem in_X10_entry_X10 : ∀ w ∈ u_ws RX10 TX10 11, w ∈ wsX10_entry := by decide +kernel
theorem lk_X10_entry_7 : Cond.fieldLink RX10 7 "QuandleColoringsModel" "now" "[I" ∈ wsX10_entry := by decide +kernel
def wp_X10_entry (post : Int32 → Prop) (a_now : Nat → Int32) (x1 : Int32) (x2 : Int32) : Prop := (wp_X10_isElement (fun (r_1 : Int32) => ((r_1 = 0 → (post (-1))) ∧ (¬ r_1 = 0 → (wp_X10_isElement (fun (r_3 : Int32) => ((r_3 = 0 → (post (-1))) ∧ (¬ r_3 = 0 → (vp_in ((6 * x1) + x2) 88 ∧ (post (a_now ((6 * x1) + x2).toNatClampNeg)))))) a_now x2)))) a_now x1)
set_option maxHeartbeats 4000000 in
set_option maxRecDepth 100000 in
theorem c_X10_entry {l : Launch} (G : qn_G) (sz : Nat) (h_this h_now h_history h_over h_order h_colors h_row h_three h_seen h_group : Nat) (f_edits : Int32) (f_total : Int32) (a_now : Nat → Int32) (x1 : Int32) (x2 : Int32) {post : Int32 → Prop} (hw : wp_X10_entry post a_now x1 x2) : Met l yX10_entry wsX10_entry rm_X10_entry (qn_PC G [.ref h_this, .int x1, .int x2] sz (wd_X10_entry G h_this h_now h_history h_over h_order h_colors h_row h_three h_seen h_group f_edits f_total a_now)) (qn_QI G (fun (r : Int32) (u : Unit) => post r) (fun u : Unit => wd_X10_entry G h_this h_now h_history h_over h_order h_colors h_row h_three h_seen h_group f_edits f_total a_now) (va_A (wd_X10_entry G h_this h_now h_history h_over h_order h_colors h_row h_three h_seen h_group f_edits f_total a_now) sz)) 0 0 (va_A (wd_X10_entry G h_this h_now h_history h_over h_order h_colors h_row h_three h_seen h_group f_edits f_total a_now) sz) := by
  refine Met.ofW (cc := cX10_entry) (maxL := 3) (ret := (some .int)) (by decide) rfl ?_
  intro p e s m args below meth c s₁ B hml hv
  obtain ⟨rfl, hsz, hP, hE, hD0⟩ := hv
  have C0 : qn_C p m c cX10_entry 3 s _ wsX10_entry RX10 meth (some .int) := qn_C0 B hml
  obtain ⟨hx, hb, -, hown, hts, hr, hlocks⟩ := id C0
  subst hsz
  have hD := hD0.self (sz := s.heap.size)
  generalize hAe : va_A (wd_X10_entry G h_this h_now h_history h_over h_order h_colors h_row h_three h_seen h_group f_edits f_total a_now) s.heap.size = A at hD ⊢
  have hA : ∀ q : Nat, s.heap.size ≤ q → A q := fun q h => by rw [← hAe]; exact Or.inr h
  clear hAe
  have hS : va_S A s.heap s.heap [] := va_S.rf
  have hl := lv_entry ([.ref h_this, .int x1, .int x2]) (n := 3) (Nat.le_of_ble_eq_true rfl)
  rw [lg_entry_eq]
  generalize (lg_sl ([.ref h_this, .int x1, .int x2]) ++ List.replicate (3 - (lg_sl ([.ref h_this, .int x1, .int x2])).length) Slot.unset).toArray = ls at hl ⊢
  have hl : lv_has ls 3 [(0, .ref h_this), (1, .int x1), (2, .int x2)] := hl
  have hP : va_P G.1 vwCl (wd_X10_entry G h_this h_now h_history h_over h_order h_colors h_row h_three h_seen h_group f_edits f_total a_now) s.heap := hP
  refine lv_aload_n hx hb dX10_entry_0 rfl (lv_at hl 0 rfl) ?_
  refine lv_iload_n hx hb dX10_entry_1 rfl (lv_at hl 1 rfl) ?_
  have hC9 : ([0, 1]).map (fun i => (wd_X10_entry G h_this h_now h_history h_over h_order h_colors h_row h_three h_seen h_group f_edits f_total a_now)[i]?) = (wd_X10_isElement G h_this h_now h_history h_over h_order h_colors h_row h_three h_seen h_group f_edits f_total a_now).map some := rfl
  refine qn_callI (wd := (fun u : Unit => wd_X10_entry G h_this h_now h_history h_over h_order h_colors h_row h_three h_seen h_group f_edits f_total a_now)) [0, 1] (va_runV (As := [.int x1]) (rest := []) ⟨hx, hb, hml, hown, hts⟩ (c_X10_isElement G _ h_this h_now h_history h_over h_order h_colors h_row h_three h_seen h_group f_edits f_total a_now x1 hw) (cwV 1 hts gX10_entry_X10_isElement rfl rfl rfl (by decide +kernel) ⟨Nat.le_of_ble_eq_true rfl, Nat.le_of_ble_eq_true rfl⟩) (qn_preV hE hP hD [0, 1] hC9 (by decide +kernel) (ci := 10) rfl rfl) rfl rfl hl.1 rfl (lv_room (Nat.le_of_ble_eq_true rfl)) dX10_entry_2 ⟨Nat.le_of_ble_eq_true rfl, Nat.le_of_ble_eq_true rfl⟩) hP hD hS hA hC9 [some 0, some 1] (M := 2) rfl (by decide +kernel) (fun _ => rfl) (fun _ => rfl) (fun r_1 _ H locs hw hP hD hS => ?_)
  try dsimp only at hw
  have hP : va_P G.1 vwCl (wd_X10_entry G h_this h_now h_history h_over h_order h_colors h_row h_three h_seen h_group f_edits f_total a_now) H := hP
  have hD : va_D A (wd_X10_entry G h_this h_now h_history h_over h_order h_colors h_row h_three h_seen h_group f_edits f_total a_now) := hD
  refine lv_if_eq (tgt := 30) hx hb dX10_entry_5 (by decide) (fun c_2 => ?_) (fun c_2 => ?_)
  · have hw := hw.1 c_2
    refine lv_iconst (v := (-1)) hx hb dX10_entry_30 (by decide) ?_
    exact W.iret (v := (-1)) hx hb hr (fun t ht hW => ⟨⟨(-1), (), rfl, hw, by rw [ht]; exact hP, hD⟩, hS.F ht⟩) hS.2.2 dX10_entry_31
  · have hw := hw.2 c_2
    refine lv_aload_n hx hb dX10_entry_8 rfl (lv_at hl 0 rfl) ?_
    refine lv_iload_n hx hb dX10_entry_9 rfl (lv_at hl 2 rfl) ?_
    have hC9 : ([0, 1]).map (fun i => (wd_X10_entry G h_this h_now h_history h_over h_order h_colors h_row h_three h_seen h_group f_edits f_total a_now)[i]?) = (wd_X10_isElement G h_this h_now h_history h_over h_order h_colors h_row h_three h_seen h_group f_edits f_total a_now).map some := rfl
    refine qn_callI (wd := (fun u : Unit => wd_X10_entry G h_this h_now h_history h_over h_order h_colors h_row h_three h_seen h_group f_edits f_total a_now)) [0, 1] (va_runV (As := [.int x2]) (rest := []) ⟨hx, hb, hml, hown, hts⟩ (c_X10_isElement G _ h_this h_now h_history h_over h_order h_colors h_row h_three h_seen h_group f_edits f_total a_now x2 hw) (cwV 1 hts gX10_entry_X10_isElement rfl rfl rfl (by decide +kernel) ⟨Nat.le_of_ble_eq_true rfl, Nat.le_of_ble_eq_true rfl⟩) (qn_preV hE hP hD [0, 1] hC9 (by decide +kernel) (ci := 10) rfl rfl) rfl rfl hl.1 rfl (lv_room (Nat.le_of_ble_eq_true rfl)) dX10_entry_10 ⟨Nat.le_of_ble_eq_true rfl, Nat.le_of_ble_eq_true rfl⟩) hP hD hS hA hC9 [some 0, some 1] (M := 2) rfl (by decide +kernel) (fun _ => rfl) (fun _ => rfl) (fun r_3 _ H locs hw hP hD hS => ?_)
    try dsimp only at hw
    have hP : va_P G.1 vwCl (wd_X10_entry G h_this h_now h_history h_over h_order h_colors h_row h_three h_seen h_group f_edits f_total a_now) H := hP
    have hD : va_D A (wd_X10_entry G h_this h_now h_history h_over h_order h_colors h_row h_three h_seen h_group f_edits f_total a_now) := hD
    refine lv_if_eq (tgt := 30) hx hb dX10_entry_13 (by decide) (fun c_4 => ?_) (fun c_4 => ?_)
    · have hw := hw.1 c_4
      refine lv_iconst (v := (-1)) hx hb dX10_entry_30 (by decide) ?_
      exact W.iret (v := (-1)) hx hb hr (fun t ht hW => ⟨⟨(-1), (), rfl, hw, by rw [ht]; exact hP, hD⟩, hS.F ht⟩) hS.2.2 dX10_entry_31
    · have hw := hw.2 c_4
      refine lv_aload_n hx hb dX10_entry_16 rfl (lv_at hl 0 rfl) ?_
      refine va_get (D := G.1) (ci := 10) (v := .ref h_now) (C := RX10) (T := TX10) (N := 11) hx hb hts in_X10_entry_X10 hown hE.1 hP 0 rfl rfl 0 (by decide) (hts (.fieldLink RX10 7 "QuandleColoringsModel" "now" "[I") lk_X10_entry_7) (fun _ h9 => h9) rfl dX10_entry_17 ?_
      refine lv_bipush (v := 6) hx hb dX10_entry_20 (by decide) ?_
      refine lv_iload_n hx hb dX10_entry_22 rfl (lv_at hl 1 rfl) ?_
      refine lv_imul hx hb dX10_entry_23 ?_
      refine lv_iload_n hx hb dX10_entry_24 rfl (lv_at hl 2 rfl) ?_
      refine lv_iadd hx hb dX10_entry_25 ?_
      have hin := hw.1
      have hw := hw.2
      refine va_iald hx hb hE.1 hP 1 0 rfl rfl hin dX10_entry_26 ?_
      refine lv_goto (tgt := 31) hx hb dX10_entry_27 (by decide) ?_
      exact W.iret (v := (a_now ((6 * x1) + x2).toNatClampNeg)) hx hb hr (fun t ht hW => ⟨⟨(a_now ((6 * x1) + x2).toNatClampNeg), (), rfl, hw, by rw [ht]; exact hP, hD⟩, hS.F ht⟩) hS.2.2 dX10_entry_31
-- QuandleColoringsModel.quotient(II)I
abbrev rm_X10_quotient : Room := { frames := 2, cells := 0, slots := 0, locals := 43 }
abbrev wd_X10_quotient (G : qn_G) (h_this h_now h_history h_over h_order h_colors h_row h_three h_seen h_group : Nat) (f_edits : Int32) (f_total : Int32) (a_now : Nat → Int32) (a_over : Nat → Int32) : va_W := [(h_this, .inr (10, [.ref h_now, .ref h_history, .int f_edits, .ref h_over, .ref h_order, .ref h_colors, .int f_total, .ref h_row, .ref h_three, .ref h_seen, .ref h_group])), (h_now, .inl (G.2.1, 88, .inl a_now)), (h_over, .inl (G.2.1, 36, .inl a_over))]
theorem in_X10_quotient_X10 : ∀ w ∈ u_ws RX10 TX10 11, w ∈ wsX10_quotient := by decide +kernel
theorem lk_X10_quotient_16 : Cond.fieldLink RX10 16 "QuandleColoringsModel" "over" "[I" ∈ wsX10_quotient := by decide +kernel
def wp_X10_quotient (post : Int32 → (Nat → Int32) → Prop) (a_now : Nat → Int32) (a_over : Nat → Int32) (x1 : Int32) (x2 : Int32) : Prop := (wp_X10_isElement (fun (r_1 : Int32) => ((r_1 = 0 → (post (-1) a_over)) ∧ (¬ r_1 = 0 → (wp_X10_isElement (fun (r_3 : Int32) => ((¬ r_3 = 0 → (wp_X10_column (fun (r_6 : Int32) (a_over_5 : Nat → Int32) => ((¬ r_6 = (-4) → (post (-2) a_over_5)) ∧ (r_6 = (-4) → (vp_in ((6 * x1) + x2) 36 ∧ (post (a_over_5 ((6 * x1) + x2).toNatClampNeg) a_over_5))))) a_now a_over)) ∧ (r_3 = 0 → (post (-1) a_over)))) a_now x2)))) a_now x1)
set_option maxHeartbeats 4000000 in
set_option maxRecDepth 100000 in
theorem c_X10_quotient {l : Launch} (G : qn_G) (sz : Nat) (h_this h_now h_history h_over h_order h_colors h_row h_three h_seen h_group : Nat) (f_edits : Int32) (f_total : Int32) (a_now : Nat → Int32) (a_over : Nat → Int32) (x1 : Int32) (x2 : Int32) {post : Int32 → (Nat → Int32) → Prop} (hw : wp_X10_quotient post a_now a_over x1 x2) : Met l yX10_quotient wsX10_quotient rm_X10_quotient (qn_PC G [.ref h_this, .int x1, .int x2] sz (wd_X10_quotient G h_this h_now h_history h_over h_order h_colors h_row h_three h_seen h_group f_edits f_total a_now a_over)) (qn_QI G (fun (r : Int32) (u : (Nat → Int32)) => post r u) (fun u : (Nat → Int32) => wd_X10_quotient G h_this h_now h_history h_over h_order h_colors h_row h_three h_seen h_group f_edits f_total a_now u) (va_A (wd_X10_quotient G h_this h_now h_history h_over h_order h_colors h_row h_three h_seen h_group f_edits f_total a_now a_over) sz)) 0 0 (va_A (wd_X10_quotient G h_this h_now h_history h_over h_order h_colors h_row h_three h_seen h_group f_edits f_total a_now a_over) sz) := by
  refine Met.ofW (cc := cX10_quotient) (maxL := 3) (ret := (some .int)) (by decide) rfl ?_
  intro p e s m args below meth c s₁ B hml hv
  obtain ⟨rfl, hsz, hP, hE, hD0⟩ := hv
  have C0 : qn_C p m c cX10_quotient 3 s _ wsX10_quotient RX10 meth (some .int) := qn_C0 B hml
  obtain ⟨hx, hb, -, hown, hts, hr, hlocks⟩ := id C0
  subst hsz
  have hD := hD0.self (sz := s.heap.size)
  generalize hAe : va_A (wd_X10_quotient G h_this h_now h_history h_over h_order h_colors h_row h_three h_seen h_group f_edits f_total a_now a_over) s.heap.size = A at hD ⊢
  have hA : ∀ q : Nat, s.heap.size ≤ q → A q := fun q h => by rw [← hAe]; exact Or.inr h
  clear hAe
  have hS : va_S A s.heap s.heap [] := va_S.rf
  have hl := lv_entry ([.ref h_this, .int x1, .int x2]) (n := 3) (Nat.le_of_ble_eq_true rfl)
  rw [lg_entry_eq]
  generalize (lg_sl ([.ref h_this, .int x1, .int x2]) ++ List.replicate (3 - (lg_sl ([.ref h_this, .int x1, .int x2])).length) Slot.unset).toArray = ls at hl ⊢
  have hl : lv_has ls 3 [(0, .ref h_this), (1, .int x1), (2, .int x2)] := hl
  have hP : va_P G.1 vwCl (wd_X10_quotient G h_this h_now h_history h_over h_order h_colors h_row h_three h_seen h_group f_edits f_total a_now a_over) s.heap := hP
  refine lv_aload_n hx hb dX10_quotient_0 rfl (lv_at hl 0 rfl) ?_
  refine lv_iload_n hx hb dX10_quotient_1 rfl (lv_at hl 1 rfl) ?_
  have hC9 : ([0, 1]).map (fun i => (wd_X10_quotient G h_this h_now h_history h_over h_order h_colors h_row h_three h_seen h_group f_edits f_total a_now a_over)[i]?) = (wd_X10_isElement G h_this h_now h_history h_over h_order h_colors h_row h_three h_seen h_group f_edits f_total a_now).map some := rfl
  refine qn_callI (wd := (fun u : Unit => wd_X10_quotient G h_this h_now h_history h_over h_order h_colors h_row h_three h_seen h_group f_edits f_total a_now a_over)) [0, 1] (va_runV (As := [.int x1]) (rest := []) ⟨hx, hb, hml, hown, hts⟩ (c_X10_isElement G _ h_this h_now h_history h_over h_order h_colors h_row h_three h_seen h_group f_edits f_total a_now x1 hw) (cwV 1 hts gX10_quotient_X10_isElement rfl rfl rfl (by decide +kernel) ⟨Nat.le_of_ble_eq_true rfl, Nat.le_of_ble_eq_true rfl⟩) (qn_preV hE hP hD [0, 1] hC9 (by decide +kernel) (ci := 10) rfl rfl) rfl rfl hl.1 rfl (lv_room (Nat.le_of_ble_eq_true rfl)) dX10_quotient_2 ⟨Nat.le_of_ble_eq_true rfl, Nat.le_of_ble_eq_true rfl⟩) hP hD hS hA hC9 [some 0, some 1, none] (M := 3) rfl (by decide +kernel) (fun _ => rfl) (fun _ => rfl) (fun r_1 _ H locs hw hP hD hS => ?_)
  try dsimp only at hw
  have hP : va_P G.1 vwCl (wd_X10_quotient G h_this h_now h_history h_over h_order h_colors h_row h_three h_seen h_group f_edits f_total a_now a_over) H := hP
  have hD : va_D A (wd_X10_quotient G h_this h_now h_history h_over h_order h_colors h_row h_three h_seen h_group f_edits f_total a_now a_over) := hD
  refine lv_if_eq (tgt := 16) hx hb dX10_quotient_5 (by decide) (fun c_2 => ?_) (fun c_2 => ?_)
  · have hw := hw.1 c_2
    refine lv_iconst (v := (-1)) hx hb dX10_quotient_16 (by decide) ?_
    exact W.iret (v := (-1)) hx hb hr (fun t ht hW => ⟨⟨(-1), a_over, rfl, hw, by rw [ht]; exact hP, hD⟩, hS.F ht⟩) hS.2.2 dX10_quotient_17
  · have hw := hw.2 c_2
    refine lv_aload_n hx hb dX10_quotient_8 rfl (lv_at hl 0 rfl) ?_
    refine lv_iload_n hx hb dX10_quotient_9 rfl (lv_at hl 2 rfl) ?_
    have hC9 : ([0, 1]).map (fun i => (wd_X10_quotient G h_this h_now h_history h_over h_order h_colors h_row h_three h_seen h_group f_edits f_total a_now a_over)[i]?) = (wd_X10_isElement G h_this h_now h_history h_over h_order h_colors h_row h_three h_seen h_group f_edits f_total a_now).map some := rfl
    refine qn_callI (wd := (fun u : Unit => wd_X10_quotient G h_this h_now h_history h_over h_order h_colors h_row h_three h_seen h_group f_edits f_total a_now a_over)) [0, 1] (va_runV (As := [.int x2]) (rest := []) ⟨hx, hb, hml, hown, hts⟩ (c_X10_isElement G _ h_this h_now h_history h_over h_order h_colors h_row h_three h_seen h_group f_edits f_total a_now x2 hw) (cwV 1 hts gX10_quotient_X10_isElement rfl rfl rfl (by decide +kernel) ⟨Nat.le_of_ble_eq_true rfl, Nat.le_of_ble_eq_true rfl⟩) (qn_preV hE hP hD [0, 1] hC9 (by decide +kernel) (ci := 10) rfl rfl) rfl rfl hl.1 rfl (lv_room (Nat.le_of_ble_eq_true rfl)) dX10_quotient_10 ⟨Nat.le_of_ble_eq_true rfl, Nat.le_of_ble_eq_true rfl⟩) hP hD hS hA hC9 [some 0, some 1, none] (M := 3) rfl (by decide +kernel) (fun _ => rfl) (fun _ => rfl) (fun r_3 _ H locs hw hP hD hS => ?_)
    try dsimp only at hw
    have hP : va_P G.1 vwCl (wd_X10_quotient G h_this h_now h_history h_over h_order h_colors h_row h_three h_seen h_group f_edits f_total a_now a_over) H := hP
    have hD : va_D A (wd_X10_quotient G h_this h_now h_history h_over h_order h_colors h_row h_three h_seen h_group f_edits f_total a_now a_over) := hD
    refine lv_if_ne (tgt := 18) hx hb dX10_quotient_13 (by decide) (fun c_4 => ?_) (fun c_4 => ?_)
    · have hw := hw.1 c_4
      refine lv_aload_n hx hb dX10_quotient_18 rfl (lv_at hl 0 rfl) ?_
      have hC9 : ([0, 1, 2]).map (fun i => (wd_X10_quotient G h_this h_now h_history h_over h_order h_colors h_row h_three h_seen h_group f_edits f_total a_now a_over)[i]?) = (wd_X10_column G h_this h_now h_history h_over h_order h_colors h_row h_three h_seen h_group f_edits f_total a_now a_over).map some := rfl
      refine qn_callI (wd := (fun u : (Nat → Int32) => wd_X10_quotient G h_this h_now h_history h_over h_order h_colors h_row h_three h_seen h_group f_edits f_total a_now u)) [0, 1, 2] (va_runV (As := []) (rest := []) ⟨hx, hb, hml, hown, hts⟩ (c_X10_column G _ h_this h_now h_history h_over h_order h_colors h_row h_three h_seen h_group f_edits f_total a_now a_over hw) (cwV 0 hts gX10_quotient_X10_column rfl rfl rfl (by decide +kernel) ⟨Nat.le_of_ble_eq_true rfl, Nat.le_of_ble_eq_true rfl⟩) (qn_preV hE hP hD [0, 1, 2] hC9 (by decide +kernel) (ci := 10) rfl rfl) rfl rfl hl.1 rfl (lv_room (Nat.le_of_ble_eq_true rfl)) dX10_quotient_19 ⟨Nat.le_of_ble_eq_true rfl, Nat.le_of_ble_eq_true rfl⟩) hP hD hS hA hC9 [some 0, some 1, some 2] (M := 3) rfl (by decide +kernel) (fun _ => rfl) (fun _ => rfl) (fun r_6 a_over_5 H locs hw hP hD hS => ?_)
      try dsimp only at hw
      have hP : va_P G.1 vwCl (wd_X10_quotient G h_this h_now h_history h_over h_order h_colors h_row h_three h_seen h_group f_edits f_total a_now a_over_5) H := hP
      have hD : va_D A (wd_X10_quotient G h_this h_now h_history h_over h_order h_colors h_row h_three h_seen h_group f_edits f_total a_now a_over_5) := hD
      refine lv_bipush (v := (-4)) hx hb dX10_quotient_22 (by decide) ?_
      refine lv_icmp_ne (tgt := 41) hx hb dX10_quotient_24 (by decide) (fun c_7 => ?_) (fun c_7 => ?_)
      · have hw := hw.1 c_7
        refine lv_bipush (v := (-2)) hx hb dX10_quotient_41 (by decide) ?_
        exact W.iret (v := (-2)) hx hb hr (fun t ht hW => ⟨⟨(-2), a_over_5, rfl, hw, by rw [ht]; exact hP, hD⟩, hS.F ht⟩) hS.2.2 dX10_quotient_43
      · have hw := hw.2 c_7
        refine lv_aload_n hx hb dX10_quotient_27 rfl (lv_at hl 0 rfl) ?_
        refine va_get (D := G.1) (ci := 10) (v := .ref h_over) (C := RX10) (T := TX10) (N := 11) hx hb hts in_X10_quotient_X10 hown hE.1 hP 0 rfl rfl 3 (by decide) (hts (.fieldLink RX10 16 "QuandleColoringsModel" "over" "[I") lk_X10_quotient_16) (fun _ h9 => h9) rfl dX10_quotient_28 ?_
        refine lv_bipush (v := 6) hx hb dX10_quotient_31 (by decide) ?_
        refine lv_iload_n hx hb dX10_quotient_33 rfl (lv_at hl 1 rfl) ?_
        refine lv_imul hx hb dX10_quotient_34 ?_
        refine lv_iload_n hx hb dX10_quotient_35 rfl (lv_at hl 2 rfl) ?_
        refine lv_iadd hx hb dX10_quotient_36 ?_
        have hin := hw.1
        have hw := hw.2
        refine va_iald hx hb hE.1 hP 2 0 rfl rfl hin dX10_quotient_37 ?_
        refine lv_goto (tgt := 43) hx hb dX10_quotient_38 (by decide) ?_
        exact W.iret (v := (a_over_5 ((6 * x1) + x2).toNatClampNeg)) hx hb hr (fun t ht hW => ⟨⟨(a_over_5 ((6 * x1) + x2).toNatClampNeg), a_over_5, rfl, hw, by rw [ht]; exact hP, hD⟩, hS.F ht⟩) hS.2.2 dX10_quotient_43
    · have hw := hw.2 c_4
      refine lv_iconst (v := (-1)) hx hb dX10_quotient_16 (by decide) ?_
      exact W.iret (v := (-1)) hx hb hr (fun t ht hW => ⟨⟨(-1), a_over, rfl, hw, by rw [ht]; exact hP, hD⟩, hS.F ht⟩) hS.2.2 dX10_quotient_17
-- QuandleColoringsModel.nonInvertibleColumn()I
abbrev rm_X10_nonInvertibleColumn : Room := { frames := 1, cells := 0, slots := 0, locals := 24 }
abbrev wd_X10_nonInvertibleColumn (G : qn_G) (h_this h_now h_history h_over h_order h_colors h_row h_three h_seen h_group : Nat) (f_edits : Int32) (f_total : Int32) (a_now : Nat → Int32) (a_over : Nat → Int32) : va_W := [(h_this, .inr (10, [.ref h_now, .ref h_history, .int f_edits, .ref h_over, .ref h_order, .ref h_colors, .int f_total, .ref h_row, .ref h_three, .ref h_seen, .ref h_group])), (h_now, .inl (G.2.1, 88, .inl a_now)), (h_over, .inl (G.2.1, 36, .inl a_over))]
def wp_X10_nonInvertibleColumn (post : Int32 → (Nat → Int32) → Prop) (a_now : Nat → Int32) (a_over : Nat → Int32) : Prop := (wp_X10_column (fun (r_2 : Int32) (a_over_1 : Nat → Int32) => (post r_2 a_over_1)) a_now a_over)
set_option maxHeartbeats 4000000 in
set_option maxRecDepth 100000 in
theorem c_X10_nonInvertibleColumn {l : Launch} (G : qn_G) (sz : Nat) (h_this h_now h_history h_over h_order h_colors h_row h_three h_seen h_group : Nat) (f_edits : Int32) (f_total : Int32) (a_now : Nat → Int32) (a_over : Nat → Int32) {post : Int32 → (Nat → Int32) → Prop} (hw : wp_X10_nonInvertibleColumn post a_now a_over) : Met l yX10_nonInvertibleColumn wsX10_nonInvertibleColumn rm_X10_nonInvertibleColumn (qn_PC G [.ref h_this] sz (wd_X10_nonInvertibleColumn G h_this h_now h_history h_over h_order h_colors h_row h_three h_seen h_group f_edits f_total a_now a_over)) (qn_QI G (fun (r : Int32) (u : (Nat → Int32)) => post r u) (fun u : (Nat → Int32) => wd_X10_nonInvertibleColumn G h_this h_now h_history h_over h_order h_colors h_row h_three h_seen h_group f_edits f_total a_now u) (va_A (wd_X10_nonInvertibleColumn G h_this h_now h_history h_over h_order h_colors h_row h_three h_seen h_group f_edits f_total a_now a_over) sz)) 0 0 (va_A (wd_X10_nonInvertibleColumn G h_this h_now h_history h_over h_order h_colors h_row h_three h_seen h_group f_edits f_total a_now a_over) sz) := by
  refine Met.ofW (cc := cX10_nonInvertibleColumn) (maxL := 1) (ret := (some .int)) (by decide) rfl ?_
  intro p e s m args below meth c s₁ B hml hv
  obtain ⟨rfl, hsz, hP, hE, hD0⟩ := hv
  have C0 : qn_C p m c cX10_nonInvertibleColumn 1 s _ wsX10_nonInvertibleColumn RX10 meth (some .int) := qn_C0 B hml
  obtain ⟨hx, hb, -, hown, hts, hr, hlocks⟩ := id C0
  subst hsz
  have hD := hD0.self (sz := s.heap.size)
  generalize hAe : va_A (wd_X10_nonInvertibleColumn G h_this h_now h_history h_over h_order h_colors h_row h_three h_seen h_group f_edits f_total a_now a_over) s.heap.size = A at hD ⊢
  have hA : ∀ q : Nat, s.heap.size ≤ q → A q := fun q h => by rw [← hAe]; exact Or.inr h
  clear hAe
  have hS : va_S A s.heap s.heap [] := va_S.rf
  have hl := lv_entry ([.ref h_this]) (n := 1) (Nat.le_of_ble_eq_true rfl)
  rw [lg_entry_eq]
  generalize (lg_sl ([.ref h_this]) ++ List.replicate (1 - (lg_sl ([.ref h_this])).length) Slot.unset).toArray = ls at hl ⊢
  have hl : lv_has ls 1 [(0, .ref h_this)] := hl
  have hP : va_P G.1 vwCl (wd_X10_nonInvertibleColumn G h_this h_now h_history h_over h_order h_colors h_row h_three h_seen h_group f_edits f_total a_now a_over) s.heap := hP
  refine lv_aload_n hx hb dX10_nonInvertibleColumn_0 rfl (lv_at hl 0 rfl) ?_
  have hC9 : ([0, 1, 2]).map (fun i => (wd_X10_nonInvertibleColumn G h_this h_now h_history h_over h_order h_colors h_row h_three h_seen h_group f_edits f_total a_now a_over)[i]?) = (wd_X10_column G h_this h_now h_history h_over h_order h_colors h_row h_three h_seen h_group f_edits f_total a_now a_over).map some := rfl
  refine qn_callI (wd := (fun u : (Nat → Int32) => wd_X10_nonInvertibleColumn G h_this h_now h_history h_over h_order h_colors h_row h_three h_seen h_group f_edits f_total a_now u)) [0, 1, 2] (va_runV (As := []) (rest := []) ⟨hx, hb, hml, hown, hts⟩ (c_X10_column G _ h_this h_now h_history h_over h_order h_colors h_row h_three h_seen h_group f_edits f_total a_now a_over hw) (cwV 0 hts gX10_nonInvertibleColumn_X10_column rfl rfl rfl (by decide +kernel) ⟨Nat.le_of_ble_eq_true rfl, Nat.le_of_ble_eq_true rfl⟩) (qn_preV hE hP hD [0, 1, 2] hC9 (by decide +kernel) (ci := 10) rfl rfl) rfl rfl hl.1 rfl (lv_room (Nat.le_of_ble_eq_true rfl)) dX10_nonInvertibleColumn_1 ⟨Nat.le_of_ble_eq_true rfl, Nat.le_of_ble_eq_true rfl⟩) hP hD hS hA hC9 [some 0, some 1, some 2] (M := 3) rfl (by decide +kernel) (fun _ => rfl) (fun _ => rfl) (fun r_2 a_over_1 H locs hw hP hD hS => ?_)
  try dsimp only at hw
  have hP : va_P G.1 vwCl (wd_X10_nonInvertibleColumn G h_this h_now h_history h_over h_order h_colors h_row h_three h_seen h_group f_edits f_total a_now a_over_1) H := hP
  have hD : va_D A (wd_X10_nonInvertibleColumn G h_this h_now h_history h_over h_order h_colors h_row h_three h_seen h_group f_edits f_total a_now a_over_1) := hD
  exact W.iret (v := r_2) hx hb hr (fun t ht hW => ⟨⟨r_2, a_over_1, rfl, hw, by rw [ht]; exact hP, hD⟩, hS.F ht⟩) hS.2.2 dX10_nonInvertibleColumn_4
-- QuandleColoringsModel.of(II)I
abbrev rm_X10_of : Room := { frames := 0, cells := 0, slots := 0, locals := 0 }
abbrev wd_X10_of (G : qn_G) (h_this h_now h_history h_over h_order h_colors h_row h_three h_seen h_group : Nat) (f_edits : Int32) (f_total : Int32) (a_now : Nat → Int32) : va_W := [(h_this, .inr (10, [.ref h_now, .ref h_history, .int f_edits, .ref h_over, .ref h_order, .ref h_colors, .int f_total, .ref h_row, .ref h_three, .ref h_seen, .ref h_group])), (h_now, .inl (G.2.1, 88, .inl a_now))]
theorem in_X10_of_X10 : ∀ w ∈ u_ws RX10 TX10 11, w ∈ wsX10_of := by decide +kernel
theorem lk_X10_of_7 : Cond.fieldLink RX10 7 "QuandleColoringsModel" "now" "[I" ∈ wsX10_of := by decide +kernel
def wp_X10_of (post : Int32 → Prop) (a_now : Nat → Int32) (x1 : Int32) (x2 : Int32) : Prop := (vp_in ((6 * x1) + x2) 88 ∧ (post (a_now ((6 * x1) + x2).toNatClampNeg)))
set_option maxHeartbeats 4000000 in
set_option maxRecDepth 100000 in
theorem c_X10_of {l : Launch} (G : qn_G) (sz : Nat) (h_this h_now h_history h_over h_order h_colors h_row h_three h_seen h_group : Nat) (f_edits : Int32) (f_total : Int32) (a_now : Nat → Int32) (x1 : Int32) (x2 : Int32) {post : Int32 → Prop} (hw : wp_X10_of post a_now x1 x2) : Met l yX10_of wsX10_of rm_X10_of (qn_PC G [.ref h_this, .int x1, .int x2] sz (wd_X10_of G h_this h_now h_history h_over h_order h_colors h_row h_three h_seen h_group f_edits f_total a_now)) (qn_QI G (fun (r : Int32) (u : Unit) => post r) (fun u : Unit => wd_X10_of G h_this h_now h_history h_over h_order h_colors h_row h_three h_seen h_group f_edits f_total a_now) (va_A (wd_X10_of G h_this h_now h_history h_over h_order h_colors h_row h_three h_seen h_group f_edits f_total a_now) sz)) 0 0 (va_A (wd_X10_of G h_this h_now h_history h_over h_order h_colors h_row h_three h_seen h_group f_edits f_total a_now) sz) := by
  refine Met.ofW (cc := cX10_of) (maxL := 3) (ret := (some .int)) (by decide) rfl ?_
  intro p e s m args below meth c s₁ B hml hv
  obtain ⟨rfl, hsz, hP, hE, hD0⟩ := hv
  have C0 : qn_C p m c cX10_of 3 s _ wsX10_of RX10 meth (some .int) := qn_C0 B hml
  obtain ⟨hx, hb, -, hown, hts, hr, hlocks⟩ := id C0
  subst hsz
  have hD := hD0.self (sz := s.heap.size)
  generalize hAe : va_A (wd_X10_of G h_this h_now h_history h_over h_order h_colors h_row h_three h_seen h_group f_edits f_total a_now) s.heap.size = A at hD ⊢
  have hA : ∀ q : Nat, s.heap.size ≤ q → A q := fun q h => by rw [← hAe]; exact Or.inr h
  clear hAe
  have hS : va_S A s.heap s.heap [] := va_S.rf
  have hl := lv_entry ([.ref h_this, .int x1, .int x2]) (n := 3) (Nat.le_of_ble_eq_true rfl)
  rw [lg_entry_eq]
  generalize (lg_sl ([.ref h_this, .int x1, .int x2]) ++ List.replicate (3 - (lg_sl ([.ref h_this, .int x1, .int x2])).length) Slot.unset).toArray = ls at hl ⊢
  have hl : lv_has ls 3 [(0, .ref h_this), (1, .int x1), (2, .int x2)] := hl
  have hP : va_P G.1 vwCl (wd_X10_of G h_this h_now h_history h_over h_order h_colors h_row h_three h_seen h_group f_edits f_total a_now) s.heap := hP
  refine lv_aload_n hx hb dX10_of_0 rfl (lv_at hl 0 rfl) ?_
  refine va_get (D := G.1) (ci := 10) (v := .ref h_now) (C := RX10) (T := TX10) (N := 11) hx hb hts in_X10_of_X10 hown hE.1 hP 0 rfl rfl 0 (by decide) (hts (.fieldLink RX10 7 "QuandleColoringsModel" "now" "[I") lk_X10_of_7) (fun _ h9 => h9) rfl dX10_of_1 ?_
  refine lv_bipush (v := 6) hx hb dX10_of_4 (by decide) ?_
  refine lv_iload_n hx hb dX10_of_6 rfl (lv_at hl 1 rfl) ?_
  refine lv_imul hx hb dX10_of_7 ?_
  refine lv_iload_n hx hb dX10_of_8 rfl (lv_at hl 2 rfl) ?_
  refine lv_iadd hx hb dX10_of_9 ?_
  have hin := hw.1
  have hw := hw.2
  refine va_iald hx hb hE.1 hP 1 0 rfl rfl hin dX10_of_10 ?_
  exact W.iret (v := (a_now ((6 * x1) + x2).toNatClampNeg)) hx hb hr (fun t ht hW => ⟨⟨(a_now ((6 * x1) + x2).toNatClampNeg), (), rfl, hw, by rw [ht]; exact hP, hD⟩, hS.F ht⟩) hS.2.2 dX10_of_11
-- QuandleColoringsModel.weightOf(II)I
abbrev rm_X10_weightOf : Room := { frames := 0, cells := 0, slots := 0, locals := 0 }
abbrev wd_X10_weightOf (G : qn_G) (h_this h_now h_history h_over h_order h_colors h_row h_three h_seen h_group : Nat) (f_edits : Int32) (f_total : Int32) (a_now : Nat → Int32) : va_W := [(h_this, .inr (10, [.ref h_now, .ref h_history, .int f_edits, .ref h_over, .ref h_order, .ref h_colors, .int f_total, .ref h_row, .ref h_three, .ref h_seen, .ref h_group])), (h_now, .inl (G.2.1, 88, .inl a_now))]
theorem in_X10_weightOf_X10 : ∀ w ∈ u_ws RX10 TX10 11, w ∈ wsX10_weightOf := by decide +kernel
theorem lk_X10_weightOf_7 : Cond.fieldLink RX10 7 "QuandleColoringsModel" "now" "[I" ∈ wsX10_weightOf := by decide +kernel
def wp_X10_weightOf (post : Int32 → Prop) (a_now : Nat → Int32) (x1 : Int32) (x2 : Int32) : Prop := (vp_in ((36 + (6 * x1)) + x2) 88 ∧ (post (a_now ((36 + (6 * x1)) + x2).toNatClampNeg)))
set_option maxHeartbeats 4000000 in
set_option maxRecDepth 100000 in
theorem c_X10_weightOf {l : Launch} (G : qn_G) (sz : Nat) (h_this h_now h_history h_over h_order h_colors h_row h_three h_seen h_group : Nat) (f_edits : Int32) (f_total : Int32) (a_now : Nat → Int32) (x1 : Int32) (x2 : Int32) {post : Int32 → Prop} (hw : wp_X10_weightOf post a_now x1 x2) : Met l yX10_weightOf wsX10_weightOf rm_X10_weightOf (qn_PC G [.ref h_this, .int x1, .int x2] sz (wd_X10_weightOf G h_this h_now h_history h_over h_order h_colors h_row h_three h_seen h_group f_edits f_total a_now)) (qn_QI G (fun (r : Int32) (u : Unit) => post r) (fun u : Unit => wd_X10_weightOf G h_this h_now h_history h_over h_order h_colors h_row h_three h_seen h_group f_edits f_total a_now) (va_A (wd_X10_weightOf G h_this h_now h_history h_over h_order h_colors h_row h_three h_seen h_group f_edits f_total a_now) sz)) 0 0 (va_A (wd_X10_weightOf G h_this h_now h_history h_over h_order h_colors h_row h_three h_seen h_group f_edits f_total a_now) sz) := by
  refine Met.ofW (cc := cX10_weightOf) (maxL := 3) (ret := (some .int)) (by decide) rfl ?_
  intro p e s m args below meth c s₁ B hml hv
  obtain ⟨rfl, hsz, hP, hE, hD0⟩ := hv
  have C0 : qn_C p m c cX10_weightOf 3 s _ wsX10_weightOf RX10 meth (some .int) := qn_C0 B hml
  obtain ⟨hx, hb, -, hown, hts, hr, hlocks⟩ := id C0
  subst hsz
  have hD := hD0.self (sz := s.heap.size)
  generalize hAe : va_A (wd_X10_weightOf G h_this h_now h_history h_over h_order h_colors h_row h_three h_seen h_group f_edits f_total a_now) s.heap.size = A at hD ⊢
  have hA : ∀ q : Nat, s.heap.size ≤ q → A q := fun q h => by rw [← hAe]; exact Or.inr h
  clear hAe
  have hS : va_S A s.heap s.heap [] := va_S.rf
  have hl := lv_entry ([.ref h_this, .int x1, .int x2]) (n := 3) (Nat.le_of_ble_eq_true rfl)
  rw [lg_entry_eq]
  generalize (lg_sl ([.ref h_this, .int x1, .int x2]) ++ List.replicate (3 - (lg_sl ([.ref h_this, .int x1, .int x2])).length) Slot.unset).toArray = ls at hl ⊢
  have hl : lv_has ls 3 [(0, .ref h_this), (1, .int x1), (2, .int x2)] := hl
  have hP : va_P G.1 vwCl (wd_X10_weightOf G h_this h_now h_history h_over h_order h_colors h_row h_three h_seen h_group f_edits f_total a_now) s.heap := hP
  refine lv_aload_n hx hb dX10_weightOf_0 rfl (lv_at hl 0 rfl) ?_
  refine va_get (D := G.1) (ci := 10) (v := .ref h_now) (C := RX10) (T := TX10) (N := 11) hx hb hts in_X10_weightOf_X10 hown hE.1 hP 0 rfl rfl 0 (by decide) (hts (.fieldLink RX10 7 "QuandleColoringsModel" "now" "[I") lk_X10_weightOf_7) (fun _ h9 => h9) rfl dX10_weightOf_1 ?_
  refine lv_bipush (v := 36) hx hb dX10_weightOf_4 (by decide) ?_
  refine lv_bipush (v := 6) hx hb dX10_weightOf_6 (by decide) ?_
  refine lv_iload_n hx hb dX10_weightOf_8 rfl (lv_at hl 1 rfl) ?_
  refine lv_imul hx hb dX10_weightOf_9 ?_
  refine lv_iadd hx hb dX10_weightOf_10 ?_
  refine lv_iload_n hx hb dX10_weightOf_11 rfl (lv_at hl 2 rfl) ?_
  refine lv_iadd hx hb dX10_weightOf_12 ?_
  have hin := hw.1
  have hw := hw.2
  refine va_iald hx hb hE.1 hP 1 0 rfl rfl hin dX10_weightOf_13 ?_
  exact W.iret (v := (a_now ((36 + (6 * x1)) + x2).toNatClampNeg)) hx hb hr (fun t ht hW => ⟨⟨(a_now ((36 + (6 * x1)) + x2).toNatClampNeg), (), rfl, hw, by rw [ht]; exact hP, hD⟩, hS.F ht⟩) hS.2.2 dX10_weightOf_14
