-- QuandleColorings$Operation.product(II)I
abbrev rm_X5_product : Room := { frames := 2, cells := 0, slots := 0, locals := 43 }
abbrev wd_X5_product (G : qn_G) (h_this h_products h_quotients h_products_cells : Nat) (f_size : Int32) (f_badColumn : Int32) (a_products_cells : Nat → Int32) : va_W := [(h_this, .inr (5, [.int f_size, .ref h_products, .ref h_quotients, .int f_badColumn])), (h_products, .inr (2, [.ref h_products_cells])), (h_products_cells, .inl (G.2.1, 36, .inl a_products_cells))]
theorem in_X5_product_X5 : ∀ w ∈ u_ws RX5 TX5 4, w ∈ wsX5_product := by decide +kernel
theorem lk_X5_product_18 : Cond.fieldLink RX5 18 "QuandleColorings$Operation" "products" "LQuandleColorings$Grid;" ∈ wsX5_product := by decide +kernel
def wp_X5_product (post : Int32 → Prop) (a_products_cells : Nat → Int32) (x1 : Int32) (x2 : Int32) : Prop := (wp_X2_get (fun (r_1 : Int32) => (post r_1)) a_products_cells x1 x2)
set_option maxHeartbeats 4000000 in
set_option maxRecDepth 100000 in
theorem c_X5_product {l : Launch} (G : qn_G) (sz : Nat) (h_this h_products h_quotients h_products_cells : Nat) (f_size : Int32) (f_badColumn : Int32) (a_products_cells : Nat → Int32) (x1 : Int32) (x2 : Int32) {post : Int32 → Prop} (hw : wp_X5_product post a_products_cells x1 x2) : Met l yX5_product wsX5_product rm_X5_product (qn_PC G [.ref h_this, .int x1, .int x2] sz (wd_X5_product G h_this h_products h_quotients h_products_cells f_size f_badColumn a_products_cells)) (qn_QI G (fun (r : Int32) (u : Unit) => post r) (fun u : Unit => wd_X5_product G h_this h_products h_quotients h_products_cells f_size f_badColumn a_products_cells) (va_A (wd_X5_product G h_this h_products h_quotients h_products_cells f_size f_badColumn a_products_cells) sz)) 0 0 (va_A (wd_X5_product G h_this h_products h_quotients h_products_cells f_size f_badColumn a_products_cells) sz) := by
  refine Met.ofW (cc := cX5_product) (maxL := 3) (ret := (some .int)) (by decide) rfl ?_
  intro p e s m args below meth c s₁ B hml hv
  obtain ⟨rfl, hsz, hP, hE, hD0⟩ := hv
  have C0 : qn_C p m c cX5_product 3 s _ wsX5_product RX5 meth (some .int) := qn_C0 B hml
  obtain ⟨hx, hb, -, hown, hts, hr, hlocks⟩ := id C0
  subst hsz
  have hD := hD0.self (sz := s.heap.size)
  generalize hAe : va_A (wd_X5_product G h_this h_products h_quotients h_products_cells f_size f_badColumn a_products_cells) s.heap.size = A at hD ⊢
  have hA : ∀ q : Nat, s.heap.size ≤ q → A q := fun q h => by rw [← hAe]; exact Or.inr h
  clear hAe
  have hS : va_S A s.heap s.heap [] := va_S.rf
  have hl := lv_entry ([.ref h_this, .int x1, .int x2]) (n := 3) (Nat.le_of_ble_eq_true rfl)
  rw [lg_entry_eq]
  generalize (lg_sl ([.ref h_this, .int x1, .int x2]) ++ List.replicate (3 - (lg_sl ([.ref h_this, .int x1, .int x2])).length) Slot.unset).toArray = ls at hl ⊢
  have hl : lv_has ls 3 [(0, .ref h_this), (1, .int x1), (2, .int x2)] := hl
  have hP : va_P G.1 vwCl (wd_X5_product G h_this h_products h_quotients h_products_cells f_size f_badColumn a_products_cells) s.heap := hP
  refine lv_aload_n hx hb dX5_product_0 rfl (lv_at hl 0 rfl) ?_
  refine va_get (D := G.1) (ci := 5) (v := .ref h_products) (C := RX5) (T := TX5) (N := 4) hx hb hts in_X5_product_X5 hown hE.1 hP 0 rfl rfl 1 (by decide) (hts (.fieldLink RX5 18 "QuandleColorings$Operation" "products" "LQuandleColorings$Grid;") lk_X5_product_18) (fun _ h9 => h9) rfl dX5_product_1 ?_
  refine lv_iload_n hx hb dX5_product_4 rfl (lv_at hl 1 rfl) ?_
  refine lv_iload_n hx hb dX5_product_5 rfl (lv_at hl 2 rfl) ?_
  have hC9 : ([1, 2]).map (fun i => (wd_X5_product G h_this h_products h_quotients h_products_cells f_size f_badColumn a_products_cells)[i]?) = (wd_X2_get G h_products h_products_cells a_products_cells).map some := rfl
  refine qn_callI (wd := (fun u : Unit => wd_X5_product G h_this h_products h_quotients h_products_cells f_size f_badColumn a_products_cells)) [1, 2] (va_runV (As := [.int x1, .int x2]) (rest := []) ⟨hx, hb, hml, hown, hts⟩ (c_X2_get G _ h_products h_products_cells a_products_cells x1 x2 hw) (cwV 2 hts gX5_product_X2_get rfl rfl rfl (by decide +kernel) ⟨Nat.le_of_ble_eq_true rfl, Nat.le_of_ble_eq_true rfl⟩) (qn_preV hE hP hD [1, 2] hC9 (by decide +kernel) (ci := 2) rfl rfl) rfl rfl hl.1 rfl (lv_room (Nat.le_of_ble_eq_true rfl)) dX5_product_6 ⟨Nat.le_of_ble_eq_true rfl, Nat.le_of_ble_eq_true rfl⟩) hP hD hS hA hC9 [none, some 0, some 1] (M := 3) rfl (by decide +kernel) (fun _ => rfl) (fun _ => rfl) (fun r_1 _ H locs hw hP hD hS => ?_)
  try dsimp only at hw
  have hP : va_P G.1 vwCl (wd_X5_product G h_this h_products h_quotients h_products_cells f_size f_badColumn a_products_cells) H := hP
  have hD : va_D A (wd_X5_product G h_this h_products h_quotients h_products_cells f_size f_badColumn a_products_cells) := hD
  exact W.iret (v := r_1) hx hb hr (fun t ht hW => ⟨⟨r_1, (), rfl, hw, by rw [ht]; exact hP, hD⟩, hS.F ht⟩) hS.2.2 dX5_product_9
-- QuandleColorings$Automorphisms.imageOf([II)I
abbrev rm_X0_imageOf : Room := { frames := 0, cells := 0, slots := 0, locals := 0 }
abbrev wd_X0_imageOf (G : qn_G) (h_o0 : Nat) (a_o0 : Nat → Int32) : va_W := [(h_o0, .inl (G.2.1, 6, .inl a_o0))]
def wp_X0_imageOf (post : Int32 → Prop) (a_o0 : Nat → Int32) (x1 : Int32) : Prop := ((x1 < 0 → (post 0)) ∧ (¬ x1 < 0 → ((6 ≤ x1 → (post 0)) ∧ (¬ 6 ≤ x1 → (vp_in x1 6 ∧ (post (a_o0 x1.toNatClampNeg)))))))
set_option maxHeartbeats 4000000 in
set_option maxRecDepth 100000 in
theorem c_X0_imageOf {l : Launch} (G : qn_G) (sz : Nat) (h_o0 : Nat) (a_o0 : Nat → Int32) (x1 : Int32) {post : Int32 → Prop} (hw : wp_X0_imageOf post a_o0 x1) : Met l yX0_imageOf wsX0_imageOf rm_X0_imageOf (qn_PC G [.ref h_o0, .int x1] sz (wd_X0_imageOf G h_o0 a_o0)) (qn_QI G (fun (r : Int32) (u : Unit) => post r) (fun u : Unit => wd_X0_imageOf G h_o0 a_o0) (va_A (wd_X0_imageOf G h_o0 a_o0) sz)) 0 0 (va_A (wd_X0_imageOf G h_o0 a_o0) sz) := by
  refine Met.ofW (cc := cX0_imageOf) (maxL := 2) (ret := (some .int)) (by decide) rfl ?_
  intro p e s m args below meth c s₁ B hml hv
  obtain ⟨rfl, hsz, hP, hE, hD0⟩ := hv
  have C0 : qn_C p m c cX0_imageOf 2 s _ wsX0_imageOf RX0 meth (some .int) := qn_C0 B hml
  obtain ⟨hx, hb, -, hown, hts, hr, hlocks⟩ := id C0
  subst hsz
  have hD := hD0.self (sz := s.heap.size)
  generalize hAe : va_A (wd_X0_imageOf G h_o0 a_o0) s.heap.size = A at hD ⊢
  have hA : ∀ q : Nat, s.heap.size ≤ q → A q := fun q h => by rw [← hAe]; exact Or.inr h
  clear hAe
  have hS : va_S A s.heap s.heap [] := va_S.rf
  have hl := lv_entry ([.ref h_o0, .int x1]) (n := 2) (Nat.le_of_ble_eq_true rfl)
  rw [lg_entry_eq]
  generalize (lg_sl ([.ref h_o0, .int x1]) ++ List.replicate (2 - (lg_sl ([.ref h_o0, .int x1])).length) Slot.unset).toArray = ls at hl ⊢
  have hl : lv_has ls 2 [(0, .ref h_o0), (1, .int x1)] := hl
  have hP : va_P G.1 vwCl (wd_X0_imageOf G h_o0 a_o0) s.heap := hP
  refine lv_iload_n hx hb dX0_imageOf_0 rfl (lv_at hl 1 rfl) ?_
  refine lv_if_lt (tgt := 16) hx hb dX0_imageOf_1 (by decide) (fun c_1 => ?_) (fun c_1 => ?_)
  · have hw := hw.1 c_1
    refine lv_iconst (v := 0) hx hb dX0_imageOf_16 (by decide) ?_
    exact W.iret (v := 0) hx hb hr (fun t ht hW => ⟨⟨0, (), rfl, hw, by rw [ht]; exact hP, hD⟩, hS.F ht⟩) hS.2.2 dX0_imageOf_17
  · have hw := hw.2 c_1
    refine lv_iload_n hx hb dX0_imageOf_4 rfl (lv_at hl 1 rfl) ?_
    refine lv_aload_n hx hb dX0_imageOf_5 rfl (lv_at hl 0 rfl) ?_
    refine va_alen hx hb hE.1 hP 0 0 rfl rfl (v := 6) rfl dX0_imageOf_6 ?_
    refine lv_icmp_ge (tgt := 16) hx hb dX0_imageOf_7 (by decide) (fun c_2 => ?_) (fun c_2 => ?_)
    · have hw := hw.1 c_2
      refine lv_iconst (v := 0) hx hb dX0_imageOf_16 (by decide) ?_
      exact W.iret (v := 0) hx hb hr (fun t ht hW => ⟨⟨0, (), rfl, hw, by rw [ht]; exact hP, hD⟩, hS.F ht⟩) hS.2.2 dX0_imageOf_17
    · have hw := hw.2 c_2
      refine lv_aload_n hx hb dX0_imageOf_10 rfl (lv_at hl 0 rfl) ?_
      refine lv_iload_n hx hb dX0_imageOf_11 rfl (lv_at hl 1 rfl) ?_
      have hin := hw.1
      have hw := hw.2
      refine va_iald hx hb hE.1 hP 0 0 rfl rfl hin dX0_imageOf_12 ?_
      refine lv_goto (tgt := 17) hx hb dX0_imageOf_13 (by decide) ?_
      exact W.iret (v := (a_o0 x1.toNatClampNeg)) hx hb hr (fun t ht hW => ⟨⟨(a_o0 x1.toNatClampNeg), (), rfl, hw, by rw [ht]; exact hP, hD⟩, hS.F ht⟩) hS.2.2 dX0_imageOf_17
-- QuandleColorings$Automorphisms.isHomomorphism(LQuandleColorings$Operation;[I)Z
abbrev rm_X0_isHomomorphism : Room := { frames := 3, cells := 0, slots := 0, locals := 65 }
abbrev wd_X0_isHomomorphism (G : qn_G) (h_o0 h_o0_products h_o0_quotients h_o0_products_cells h_o1 : Nat) (f_o0_size : Int32) (f_o0_badColumn : Int32) (a_o0_products_cells : Nat → Int32) (a_o1 : Nat → Int32) : va_W := [(h_o0, .inr (5, [.int f_o0_size, .ref h_o0_products, .ref h_o0_quotients, .int f_o0_badColumn])), (h_o0_products, .inr (2, [.ref h_o0_products_cells])), (h_o0_products_cells, .inl (G.2.1, 36, .inl a_o0_products_cells)), (h_o1, .inl (G.2.1, 6, .inl a_o1))]
theorem in_X0_isHomomorphism_X5 : ∀ w ∈ u_ws RX5 TX5 4, w ∈ wsX0_isHomomorphism := by decide +kernel
def wp_X0_isHomomorphism_L12 (post : Int32 → Prop) (KL12 : Prop) (x2 : Int32) (f_o0_size : Int32) (a_o0_products_cells : Nat → Int32) (a_o1 : Nat → Int32) : Nat → Int32 → Prop
  | 0 => fun _ => False
  | fu + 1 => fun x3 => ((f_o0_size ≤ x3 → KL12) ∧ (¬ f_o0_size ≤ x3 → (wp_X5_product (fun (r_3 : Int32) => (wp_X0_imageOf (fun (r_4 : Int32) => (wp_X0_imageOf (fun (r_5 : Int32) => (wp_X0_imageOf (fun (r_6 : Int32) => (wp_X5_product (fun (r_7 : Int32) => ((r_4 = r_7 → (∀ x3_9 : Int32, x3_9 = x3 + 1 → ((wp_X0_isHomomorphism_L12 post KL12 x2 f_o0_size a_o0_products_cells a_o1 fu) x3_9))) ∧ (¬ r_4 = r_7 → (post 0)))) a_o0_products_cells r_5 r_6)) a_o1 x3)) a_o1 x2)) a_o1 r_3)) a_o0_products_cells x2 x3)))
def wp_X0_isHomomorphism_L2 (post : Int32 → Prop) (KL2 : Prop) (f_o0_size : Int32) (a_o0_products_cells : Nat → Int32) (a_o1 : Nat → Int32) : Nat → Int32 → Prop
  | 0 => fun _ => False
  | fu + 1 => fun x2 => ((f_o0_size ≤ x2 → KL2) ∧ (¬ f_o0_size ≤ x2 → (∃ fu_11 : Nat, wp_X0_isHomomorphism_L12 post (∀ x2_10 : Int32, x2_10 = x2 + 1 → ((wp_X0_isHomomorphism_L2 post KL2 f_o0_size a_o0_products_cells a_o1 fu) x2_10)) x2 f_o0_size a_o0_products_cells a_o1 fu_11 0)))
def wp_X0_isHomomorphism (post : Int32 → Prop) (f_o0_size : Int32) (a_o0_products_cells : Nat → Int32) (a_o1 : Nat → Int32) : Prop := (∃ fu_12 : Nat, wp_X0_isHomomorphism_L2 post (post 1) f_o0_size a_o0_products_cells a_o1 fu_12 0)
set_option maxHeartbeats 4000000 in
set_option maxRecDepth 100000 in
theorem l_X0_isHomomorphism_12 {p : Program} {l : Launch} {e : Env} {s : State} {m : MethodId} {args : Array Value} {below : List Frame} {meth : Method} {c : Code} {G : qn_G} {A : Nat → Prop} {h_o0 h_o0_products h_o0_quotients h_o0_products_cells h_o1 : Nat} {f_o0_size : Int32} {f_o0_badColumn : Int32} {a_o0_products_cells : Nat → Int32} {a_o1 : Nat → Int32} {x2 : Int32} {post : Int32 → Prop} {KL12 : Prop} (C0 : qn_C p m c cX0_isHomomorphism 5 s args wsX0_isHomomorphism RX0 meth (some .boolean)) (hE : qn_EV G s) (hA : ∀ q, s.heap.size ≤ q → A q) (hKc : KL12 → ∀ (H : Heap) (locs : List Loc) (ls : Array Slot), va_P G.1 vwCl (wd_X0_isHomomorphism G h_o0 h_o0_products h_o0_quotients h_o0_products_cells h_o1 f_o0_size f_o0_badColumn a_o0_products_cells a_o1) H → va_D A (wd_X0_isHomomorphism G h_o0 h_o0_products h_o0_quotients h_o0_products_cells h_o1 f_o0_size f_o0_badColumn a_o0_products_cells a_o1) → va_S A s.heap H locs → lv_has ls 5 [(0, .ref h_o0), (1, .ref h_o1), (2, .int x2)] → W p l e (headSpec wsX0_isHomomorphism rm_X0_isHomomorphism).room s m args below meth c H locs 0 0 (MQ below (qn_QI G (fun (r : Int32) (u : Unit) => post r) (fun u : Unit => wd_X0_isHomomorphism G h_o0 h_o0_products h_o0_quotients h_o0_products_cells h_o1 f_o0_size f_o0_badColumn a_o0_products_cells a_o1) A) args s 0 0 A) (F0 m 59 ls [])) :
    ∀ (fu : Nat) (x3 : Int32), wp_X0_isHomomorphism_L12 post KL12 x2 f_o0_size a_o0_products_cells a_o1 fu x3 → ∀ (H : Heap) (locs : List Loc) (ls : Array Slot), va_P G.1 vwCl (wd_X0_isHomomorphism G h_o0 h_o0_products h_o0_quotients h_o0_products_cells h_o1 f_o0_size f_o0_badColumn a_o0_products_cells a_o1) H → va_D A (wd_X0_isHomomorphism G h_o0 h_o0_products h_o0_quotients h_o0_products_cells h_o1 f_o0_size f_o0_badColumn a_o0_products_cells a_o1) → va_S A s.heap H locs → lv_has ls 5 [(0, .ref h_o0), (1, .ref h_o1), (2, .int x2), (3, .int x3)] → W p l e (headSpec wsX0_isHomomorphism rm_X0_isHomomorphism).room s m args below meth c H locs 0 0 (MQ below (qn_QI G (fun (r : Int32) (u : Unit) => post r) (fun u : Unit => wd_X0_isHomomorphism G h_o0 h_o0_products h_o0_quotients h_o0_products_cells h_o1 f_o0_size f_o0_badColumn a_o0_products_cells a_o1) A) args s 0 0 A) (F0 m 12 ls []) := by
  obtain ⟨hx, hb, hml, hown, hts, hr, hlocks⟩ := id C0
  intro fu
  induction fu with
  | zero => intro x3 hw; exact hw.elim
  | succ fu ih =>
    intro x3 hw H locs ls hP hD hS hl
    refine lv_iload_n hx hb dX0_isHomomorphism_12 rfl (lv_at hl 3 rfl) ?_
    refine lv_aload_n hx hb dX0_isHomomorphism_13 rfl (lv_at hl 0 rfl) ?_
    refine va_getN (D := G.1) (ci := 5) (v := .int f_o0_size) (C := RX5) (T := TX5) (N := 4) hx hb hts in_X0_isHomomorphism_X5 hown hE.1 hP 0 rfl rfl 0 (by decide) (va_Nw.use rfl (qn_f_Automorphisms_19 hE.2.1)) (fun _ h9 => h9) rfl dX0_isHomomorphism_14 ?_
    refine lv_icmp_ge (tgt := 59) hx hb dX0_isHomomorphism_17 (by decide) (fun c_2 => ?_) (fun c_2 => ?_)
    · have hw := hw.1 c_2
      exact hKc  hw _ _ _ hP hD hS (lv_sub hl [0, 1, 2] rfl)
    · have hw := hw.2 c_2
      refine lv_aload_n hx hb dX0_isHomomorphism_20 rfl (lv_at hl 1 rfl) ?_
      refine lv_aload_n hx hb dX0_isHomomorphism_21 rfl (lv_at hl 0 rfl) ?_
      refine lv_iload_n hx hb dX0_isHomomorphism_22 rfl (lv_at hl 2 rfl) ?_
      refine lv_iload_n hx hb dX0_isHomomorphism_23 rfl (lv_at hl 3 rfl) ?_
      have hC9 : ([0, 1, 2]).map (fun i => (wd_X0_isHomomorphism G h_o0 h_o0_products h_o0_quotients h_o0_products_cells h_o1 f_o0_size f_o0_badColumn a_o0_products_cells a_o1)[i]?) = (wd_X5_product G h_o0 h_o0_products h_o0_quotients h_o0_products_cells f_o0_size f_o0_badColumn a_o0_products_cells).map some := rfl
      refine qn_callI (wd := (fun u : Unit => wd_X0_isHomomorphism G h_o0 h_o0_products h_o0_quotients h_o0_products_cells h_o1 f_o0_size f_o0_badColumn a_o0_products_cells a_o1)) [0, 1, 2] (va_runV (As := [.int x2, .int x3]) (rest := [.ref h_o1]) ⟨hx, hb, hml, hown, hts⟩ (c_X5_product G _ h_o0 h_o0_products h_o0_quotients h_o0_products_cells f_o0_size f_o0_badColumn a_o0_products_cells x2 x3 hw) (cwV 2 hts gX0_isHomomorphism_X5_product rfl rfl rfl (by decide +kernel) ⟨Nat.le_of_ble_eq_true rfl, Nat.le_of_ble_eq_true rfl⟩) (qn_preV hE hP hD [0, 1, 2] hC9 (by decide +kernel) (ci := 5) rfl rfl) rfl rfl hl.1 rfl (lv_room (Nat.le_of_ble_eq_true rfl)) dX0_isHomomorphism_24 ⟨Nat.le_of_ble_eq_true rfl, Nat.le_of_ble_eq_true rfl⟩) hP hD hS hA hC9 [some 0, some 1, some 2, none] (M := 4) rfl (by decide +kernel) (fun _ => rfl) (fun _ => rfl) (fun r_3 _ H locs hw hP hD hS => ?_)
      try dsimp only at hw
      have hP : va_P G.1 vwCl (wd_X0_isHomomorphism G h_o0 h_o0_products h_o0_quotients h_o0_products_cells h_o1 f_o0_size f_o0_badColumn a_o0_products_cells a_o1) H := hP
      have hD : va_D A (wd_X0_isHomomorphism G h_o0 h_o0_products h_o0_quotients h_o0_products_cells h_o1 f_o0_size f_o0_badColumn a_o0_products_cells a_o1) := hD
      have hC9 : ([3]).map (fun i => (wd_X0_isHomomorphism G h_o0 h_o0_products h_o0_quotients h_o0_products_cells h_o1 f_o0_size f_o0_badColumn a_o0_products_cells a_o1)[i]?) = (wd_X0_imageOf G h_o1 a_o1).map some := rfl
      refine qn_callI (wd := (fun u : Unit => wd_X0_isHomomorphism G h_o0 h_o0_products h_o0_quotients h_o0_products_cells h_o1 f_o0_size f_o0_badColumn a_o0_products_cells a_o1)) [3] (va_runS (As := [.ref h_o1, .int r_3]) (rest := []) ⟨hx, hb, hml, hown, hts⟩ (c_X0_imageOf G _ h_o1 a_o1 r_3 hw) (va_cwS 2 hts gX0_isHomomorphism_X0_imageOf rfl rfl rfl (by decide +kernel) ⟨Nat.le_of_ble_eq_true rfl, Nat.le_of_ble_eq_true rfl⟩) (qn_preS hE hP hD [3] hC9 (by decide +kernel)) rfl rfl hl.1 rfl (lv_room (Nat.le_of_ble_eq_true rfl)) dX0_isHomomorphism_27 ⟨Nat.le_of_ble_eq_true rfl, Nat.le_of_ble_eq_true rfl⟩) hP hD hS hA hC9 [none, none, none, some 0] (M := 4) rfl (by decide +kernel) (fun _ => rfl) (fun _ => rfl) (fun r_4 _ H locs hw hP hD hS => ?_)
      try dsimp only at hw
      have hP : va_P G.1 vwCl (wd_X0_isHomomorphism G h_o0 h_o0_products h_o0_quotients h_o0_products_cells h_o1 f_o0_size f_o0_badColumn a_o0_products_cells a_o1) H := hP
      have hD : va_D A (wd_X0_isHomomorphism G h_o0 h_o0_products h_o0_quotients h_o0_products_cells h_o1 f_o0_size f_o0_badColumn a_o0_products_cells a_o1) := hD
      refine lv_istore (lv' := [(4, .int r_4), (0, .ref h_o0), (1, .ref h_o1), (2, .int x2), (3, .int x3)]) hx hb dX0_isHomomorphism_30 hl (by decide) rfl (fun ls hl => ?_)
      refine lv_iload hx hb dX0_isHomomorphism_32 (lv_at hl 0 rfl) ?_
      refine lv_aload_n hx hb dX0_isHomomorphism_34 rfl (lv_at hl 1 rfl) ?_
      refine lv_aload_n hx hb dX0_isHomomorphism_35 rfl (lv_at hl 2 rfl) ?_
      refine lv_iload_n hx hb dX0_isHomomorphism_36 rfl (lv_at hl 3 rfl) ?_
      have hC9 : ([3]).map (fun i => (wd_X0_isHomomorphism G h_o0 h_o0_products h_o0_quotients h_o0_products_cells h_o1 f_o0_size f_o0_badColumn a_o0_products_cells a_o1)[i]?) = (wd_X0_imageOf G h_o1 a_o1).map some := rfl
      refine qn_callI (wd := (fun u : Unit => wd_X0_isHomomorphism G h_o0 h_o0_products h_o0_quotients h_o0_products_cells h_o1 f_o0_size f_o0_badColumn a_o0_products_cells a_o1)) [3] (va_runS (As := [.ref h_o1, .int x2]) (rest := [.ref h_o0, .int r_4]) ⟨hx, hb, hml, hown, hts⟩ (c_X0_imageOf G _ h_o1 a_o1 x2 hw) (va_cwS 2 hts gX0_isHomomorphism_X0_imageOf rfl rfl rfl (by decide +kernel) ⟨Nat.le_of_ble_eq_true rfl, Nat.le_of_ble_eq_true rfl⟩) (qn_preS hE hP hD [3] hC9 (by decide +kernel)) rfl rfl hl.1 rfl (lv_room (Nat.le_of_ble_eq_true rfl)) dX0_isHomomorphism_37 ⟨Nat.le_of_ble_eq_true rfl, Nat.le_of_ble_eq_true rfl⟩) hP hD hS hA hC9 [none, none, none, some 0] (M := 4) rfl (by decide +kernel) (fun _ => rfl) (fun _ => rfl) (fun r_5 _ H locs hw hP hD hS => ?_)
      try dsimp only at hw
      have hP : va_P G.1 vwCl (wd_X0_isHomomorphism G h_o0 h_o0_products h_o0_quotients h_o0_products_cells h_o1 f_o0_size f_o0_badColumn a_o0_products_cells a_o1) H := hP
      have hD : va_D A (wd_X0_isHomomorphism G h_o0 h_o0_products h_o0_quotients h_o0_products_cells h_o1 f_o0_size f_o0_badColumn a_o0_products_cells a_o1) := hD
      refine lv_aload_n hx hb dX0_isHomomorphism_40 rfl (lv_at hl 2 rfl) ?_
      refine lv_iload_n hx hb dX0_isHomomorphism_41 rfl (lv_at hl 4 rfl) ?_
      have hC9 : ([3]).map (fun i => (wd_X0_isHomomorphism G h_o0 h_o0_products h_o0_quotients h_o0_products_cells h_o1 f_o0_size f_o0_badColumn a_o0_products_cells a_o1)[i]?) = (wd_X0_imageOf G h_o1 a_o1).map some := rfl
      refine qn_callI (wd := (fun u : Unit => wd_X0_isHomomorphism G h_o0 h_o0_products h_o0_quotients h_o0_products_cells h_o1 f_o0_size f_o0_badColumn a_o0_products_cells a_o1)) [3] (va_runS (As := [.ref h_o1, .int x3]) (rest := [.int r_5, .ref h_o0, .int r_4]) ⟨hx, hb, hml, hown, hts⟩ (c_X0_imageOf G _ h_o1 a_o1 x3 hw) (va_cwS 2 hts gX0_isHomomorphism_X0_imageOf rfl rfl rfl (by decide +kernel) ⟨Nat.le_of_ble_eq_true rfl, Nat.le_of_ble_eq_true rfl⟩) (qn_preS hE hP hD [3] hC9 (by decide +kernel)) rfl rfl hl.1 rfl (lv_room (Nat.le_of_ble_eq_true rfl)) dX0_isHomomorphism_42 ⟨Nat.le_of_ble_eq_true rfl, Nat.le_of_ble_eq_true rfl⟩) hP hD hS hA hC9 [none, none, none, some 0] (M := 4) rfl (by decide +kernel) (fun _ => rfl) (fun _ => rfl) (fun r_6 _ H locs hw hP hD hS => ?_)
      try dsimp only at hw
      have hP : va_P G.1 vwCl (wd_X0_isHomomorphism G h_o0 h_o0_products h_o0_quotients h_o0_products_cells h_o1 f_o0_size f_o0_badColumn a_o0_products_cells a_o1) H := hP
      have hD : va_D A (wd_X0_isHomomorphism G h_o0 h_o0_products h_o0_quotients h_o0_products_cells h_o1 f_o0_size f_o0_badColumn a_o0_products_cells a_o1) := hD
      have hC9 : ([0, 1, 2]).map (fun i => (wd_X0_isHomomorphism G h_o0 h_o0_products h_o0_quotients h_o0_products_cells h_o1 f_o0_size f_o0_badColumn a_o0_products_cells a_o1)[i]?) = (wd_X5_product G h_o0 h_o0_products h_o0_quotients h_o0_products_cells f_o0_size f_o0_badColumn a_o0_products_cells).map some := rfl
      refine qn_callI (wd := (fun u : Unit => wd_X0_isHomomorphism G h_o0 h_o0_products h_o0_quotients h_o0_products_cells h_o1 f_o0_size f_o0_badColumn a_o0_products_cells a_o1)) [0, 1, 2] (va_runV (As := [.int r_5, .int r_6]) (rest := [.int r_4]) ⟨hx, hb, hml, hown, hts⟩ (c_X5_product G _ h_o0 h_o0_products h_o0_quotients h_o0_products_cells f_o0_size f_o0_badColumn a_o0_products_cells r_5 r_6 hw) (cwV 2 hts gX0_isHomomorphism_X5_product rfl rfl rfl (by decide +kernel) ⟨Nat.le_of_ble_eq_true rfl, Nat.le_of_ble_eq_true rfl⟩) (qn_preV hE hP hD [0, 1, 2] hC9 (by decide +kernel) (ci := 5) rfl rfl) rfl rfl hl.1 rfl (lv_room (Nat.le_of_ble_eq_true rfl)) dX0_isHomomorphism_45 ⟨Nat.le_of_ble_eq_true rfl, Nat.le_of_ble_eq_true rfl⟩) hP hD hS hA hC9 [some 0, some 1, some 2, none] (M := 4) rfl (by decide +kernel) (fun _ => rfl) (fun _ => rfl) (fun r_7 _ H locs hw hP hD hS => ?_)
      try dsimp only at hw
      have hP : va_P G.1 vwCl (wd_X0_isHomomorphism G h_o0 h_o0_products h_o0_quotients h_o0_products_cells h_o1 f_o0_size f_o0_badColumn a_o0_products_cells a_o1) H := hP
      have hD : va_D A (wd_X0_isHomomorphism G h_o0 h_o0_products h_o0_quotients h_o0_products_cells h_o1 f_o0_size f_o0_badColumn a_o0_products_cells a_o1) := hD
      refine lv_icmp_eq (tgt := 53) hx hb dX0_isHomomorphism_48 (by decide) (fun c_8 => ?_) (fun c_8 => ?_)
      · have hw := hw.1 c_8
        obtain ⟨x3_9, ex3_9⟩ : ∃ y : Int32, y = x3 + 1 := ⟨_, rfl⟩
        have hw := hw x3_9 ex3_9
        refine lv_iinc (v := x3_9) (lv' := [(3, .int x3_9), (4, .int r_4), (0, .ref h_o0), (1, .ref h_o1), (2, .int x2)]) hx hb dX0_isHomomorphism_53 hl (k := 4) rfl (by rw [ex3_9]; rfl) (by decide) rfl (fun ls hl => ?_)
        refine lv_goto (tgt := 12) hx hb dX0_isHomomorphism_56 (by decide) ?_
        exact ih x3_9 hw _ _ _ hP hD hS (lv_sub hl [2, 3, 4, 0] rfl)
      · have hw := hw.2 c_8
        refine lv_iconst (v := 0) hx hb dX0_isHomomorphism_51 (by decide) ?_
        exact W.zret (v := 0) hx hb hr (by decide) (fun t ht hW => ⟨⟨0, (), rfl, hw, by rw [ht]; exact hP, hD⟩, hS.F ht⟩) hS.2.2 dX0_isHomomorphism_52
set_option maxHeartbeats 4000000 in
set_option maxRecDepth 100000 in
theorem l_X0_isHomomorphism_2 {p : Program} {l : Launch} {e : Env} {s : State} {m : MethodId} {args : Array Value} {below : List Frame} {meth : Method} {c : Code} {G : qn_G} {A : Nat → Prop} {h_o0 h_o0_products h_o0_quotients h_o0_products_cells h_o1 : Nat} {f_o0_size : Int32} {f_o0_badColumn : Int32} {a_o0_products_cells : Nat → Int32} {a_o1 : Nat → Int32} {post : Int32 → Prop} {KL2 : Prop} (C0 : qn_C p m c cX0_isHomomorphism 5 s args wsX0_isHomomorphism RX0 meth (some .boolean)) (hE : qn_EV G s) (hA : ∀ q, s.heap.size ≤ q → A q) (hKc : KL2 → ∀ (H : Heap) (locs : List Loc) (ls : Array Slot), va_P G.1 vwCl (wd_X0_isHomomorphism G h_o0 h_o0_products h_o0_quotients h_o0_products_cells h_o1 f_o0_size f_o0_badColumn a_o0_products_cells a_o1) H → va_D A (wd_X0_isHomomorphism G h_o0 h_o0_products h_o0_quotients h_o0_products_cells h_o1 f_o0_size f_o0_badColumn a_o0_products_cells a_o1) → va_S A s.heap H locs → lv_has ls 5 [] → W p l e (headSpec wsX0_isHomomorphism rm_X0_isHomomorphism).room s m args below meth c H locs 0 0 (MQ below (qn_QI G (fun (r : Int32) (u : Unit) => post r) (fun u : Unit => wd_X0_isHomomorphism G h_o0 h_o0_products h_o0_quotients h_o0_products_cells h_o1 f_o0_size f_o0_badColumn a_o0_products_cells a_o1) A) args s 0 0 A) (F0 m 65 ls [])) :
    ∀ (fu : Nat) (x2 : Int32), wp_X0_isHomomorphism_L2 post KL2 f_o0_size a_o0_products_cells a_o1 fu x2 → ∀ (H : Heap) (locs : List Loc) (ls : Array Slot), va_P G.1 vwCl (wd_X0_isHomomorphism G h_o0 h_o0_products h_o0_quotients h_o0_products_cells h_o1 f_o0_size f_o0_badColumn a_o0_products_cells a_o1) H → va_D A (wd_X0_isHomomorphism G h_o0 h_o0_products h_o0_quotients h_o0_products_cells h_o1 f_o0_size f_o0_badColumn a_o0_products_cells a_o1) → va_S A s.heap H locs → lv_has ls 5 [(0, .ref h_o0), (1, .ref h_o1), (2, .int x2)] → W p l e (headSpec wsX0_isHomomorphism rm_X0_isHomomorphism).room s m args below meth c H locs 0 0 (MQ below (qn_QI G (fun (r : Int32) (u : Unit) => post r) (fun u : Unit => wd_X0_isHomomorphism G h_o0 h_o0_products h_o0_quotients h_o0_products_cells h_o1 f_o0_size f_o0_badColumn a_o0_products_cells a_o1) A) args s 0 0 A) (F0 m 2 ls []) := by
  obtain ⟨hx, hb, hml, hown, hts, hr, hlocks⟩ := id C0
  intro fu
  induction fu with
  | zero => intro x2 hw; exact hw.elim
  | succ fu ih =>
    intro x2 hw H locs ls hP hD hS hl
    refine lv_iload_n hx hb dX0_isHomomorphism_2 rfl (lv_at hl 2 rfl) ?_
    refine lv_aload_n hx hb dX0_isHomomorphism_3 rfl (lv_at hl 0 rfl) ?_
    refine va_getN (D := G.1) (ci := 5) (v := .int f_o0_size) (C := RX5) (T := TX5) (N := 4) hx hb hts in_X0_isHomomorphism_X5 hown hE.1 hP 0 rfl rfl 0 (by decide) (va_Nw.use rfl (qn_f_Automorphisms_19 hE.2.1)) (fun _ h9 => h9) rfl dX0_isHomomorphism_4 ?_
    refine lv_icmp_ge (tgt := 65) hx hb dX0_isHomomorphism_7 (by decide) (fun c_1 => ?_) (fun c_1 => ?_)
    · have hw := hw.1 c_1
      exact hKc  hw _ _ _ hP hD hS (lv_sub hl [] rfl)
    · have hw := hw.2 c_1
      refine lv_iconst (v := 0) hx hb dX0_isHomomorphism_10 (by decide) ?_
      refine lv_istore_n (lv' := [(3, .int 0), (0, .ref h_o0), (1, .ref h_o1), (2, .int x2)]) hx hb dX0_isHomomorphism_11 rfl hl (by decide) rfl (fun ls hl => ?_)
      obtain ⟨fu_11, hw⟩ := hw
      refine l_X0_isHomomorphism_12 (post := post) C0 hE hA (fun  hw H locs ls hP hD hS hl => ?_) fu_11 0 hw _ _ _ hP hD hS (lv_sub hl [1, 2, 3, 0] rfl)
      obtain ⟨x2_10, ex2_10⟩ : ∃ y : Int32, y = x2 + 1 := ⟨_, rfl⟩
      have hw := hw x2_10 ex2_10
      refine lv_iinc (v := x2_10) (lv' := [(2, .int x2_10), (0, .ref h_o0), (1, .ref h_o1)]) hx hb dX0_isHomomorphism_59 hl (k := 2) rfl (by rw [ex2_10]; rfl) (by decide) rfl (fun ls hl => ?_)
      refine lv_goto (tgt := 2) hx hb dX0_isHomomorphism_62 (by decide) ?_
      exact ih x2_10 hw _ _ _ hP hD hS (lv_sub hl [1, 2, 0] rfl)
set_option maxHeartbeats 4000000 in
set_option maxRecDepth 100000 in
theorem c_X0_isHomomorphism {l : Launch} (G : qn_G) (sz : Nat) (h_o0 h_o0_products h_o0_quotients h_o0_products_cells h_o1 : Nat) (f_o0_size : Int32) (f_o0_badColumn : Int32) (a_o0_products_cells : Nat → Int32) (a_o1 : Nat → Int32) {post : Int32 → Prop} (hw : wp_X0_isHomomorphism post f_o0_size a_o0_products_cells a_o1) : Met l yX0_isHomomorphism wsX0_isHomomorphism rm_X0_isHomomorphism (qn_PC G [.ref h_o0, .ref h_o1] sz (wd_X0_isHomomorphism G h_o0 h_o0_products h_o0_quotients h_o0_products_cells h_o1 f_o0_size f_o0_badColumn a_o0_products_cells a_o1)) (qn_QI G (fun (r : Int32) (u : Unit) => post r) (fun u : Unit => wd_X0_isHomomorphism G h_o0 h_o0_products h_o0_quotients h_o0_products_cells h_o1 f_o0_size f_o0_badColumn a_o0_products_cells a_o1) (va_A (wd_X0_isHomomorphism G h_o0 h_o0_products h_o0_quotients h_o0_products_cells h_o1 f_o0_size f_o0_badColumn a_o0_products_cells a_o1) sz)) 0 0 (va_A (wd_X0_isHomomorphism G h_o0 h_o0_products h_o0_quotients h_o0_products_cells h_o1 f_o0_size f_o0_badColumn a_o0_products_cells a_o1) sz) := by
  refine Met.ofW (cc := cX0_isHomomorphism) (maxL := 5) (ret := (some .boolean)) (by decide) rfl ?_
  intro p e s m args below meth c s₁ B hml hv
  obtain ⟨rfl, hsz, hP, hE, hD0⟩ := hv
  have C0 : qn_C p m c cX0_isHomomorphism 5 s _ wsX0_isHomomorphism RX0 meth (some .boolean) := qn_C0 B hml
  obtain ⟨hx, hb, -, hown, hts, hr, hlocks⟩ := id C0
  subst hsz
  have hD := hD0.self (sz := s.heap.size)
  generalize hAe : va_A (wd_X0_isHomomorphism G h_o0 h_o0_products h_o0_quotients h_o0_products_cells h_o1 f_o0_size f_o0_badColumn a_o0_products_cells a_o1) s.heap.size = A at hD ⊢
  have hA : ∀ q : Nat, s.heap.size ≤ q → A q := fun q h => by rw [← hAe]; exact Or.inr h
  clear hAe
  have hS : va_S A s.heap s.heap [] := va_S.rf
  have hl := lv_entry ([.ref h_o0, .ref h_o1]) (n := 5) (Nat.le_of_ble_eq_true rfl)
  rw [lg_entry_eq]
  generalize (lg_sl ([.ref h_o0, .ref h_o1]) ++ List.replicate (5 - (lg_sl ([.ref h_o0, .ref h_o1])).length) Slot.unset).toArray = ls at hl ⊢
  have hl : lv_has ls 5 [(0, .ref h_o0), (1, .ref h_o1)] := hl
  have hP : va_P G.1 vwCl (wd_X0_isHomomorphism G h_o0 h_o0_products h_o0_quotients h_o0_products_cells h_o1 f_o0_size f_o0_badColumn a_o0_products_cells a_o1) s.heap := hP
  refine lv_iconst (v := 0) hx hb dX0_isHomomorphism_0 (by decide) ?_
  refine lv_istore_n (lv' := [(2, .int 0), (0, .ref h_o0), (1, .ref h_o1)]) hx hb dX0_isHomomorphism_1 rfl hl (by decide) rfl (fun ls hl => ?_)
  obtain ⟨fu_12, hw⟩ := hw
  refine l_X0_isHomomorphism_2 (post := post) C0 hE hA (fun  hw H locs ls hP hD hS hl => ?_) fu_12 0 hw _ _ _ hP hD hS (lv_sub hl [1, 2, 0] rfl)
  refine lv_iconst (v := 1) hx hb dX0_isHomomorphism_65 (by decide) ?_
  exact W.zret (v := 1) hx hb hr (by decide) (fun t ht hW => ⟨⟨1, (), rfl, hw, by rw [ht]; exact hP, hD⟩, hS.F ht⟩) hS.2.2 dX0_isHomomorphism_66
-- QuandleColorings$Automorphisms.countExtensions(LQuandleColorings$Operation;[III)I
abbrev rm_X0_countExtensions (d : Nat) : Room := { frames := 4 + d, cells := 0, slots := 0, locals := 89 + d * 25 }
abbrev wd_X0_countExtensions (G : qn_G) (h_o0 h_o0_products h_o0_quotients h_o0_products_cells h_o1 : Nat) (f_o0_size : Int32) (f_o0_badColumn : Int32) (a_o0_products_cells : Nat → Int32) (a_o1 : Nat → Int32) : va_W := [(h_o0, .inr (5, [.int f_o0_size, .ref h_o0_products, .ref h_o0_quotients, .int f_o0_badColumn])), (h_o0_products, .inr (2, [.ref h_o0_products_cells])), (h_o0_products_cells, .inl (G.2.1, 36, .inl a_o0_products_cells)), (h_o1, .inl (G.2.1, 6, .inl a_o1))]
theorem in_X0_countExtensions_X5 : ∀ w ∈ u_ws RX5 TX5 4, w ∈ wsX0_countExtensions := by decide +kernel
def wp_X0_countExtensions_J14 (post : Int32 → (Nat → Int32) → Prop) (f_o0_size : Int32) (a_o0_products_cells : Nat → Int32) (a_o1 : Nat → Int32) : Prop := (wp_X0_isHomomorphism (fun (r_2 : Int32) => ((r_2 = 0 → (post 0 a_o1)) ∧ (¬ r_2 = 0 → (post 1 a_o1)))) f_o0_size a_o0_products_cells a_o1)
def wp_X0_countExtensions_L34 (REC : (Int32 → (Nat → Int32) → Prop) → Int32 → Int32 → (Nat → Int32) → (Nat → Int32) → Int32 → Int32 → Prop) (KL34 : Int32 → (Nat → Int32) → Prop) (x2 : Int32) (x3 : Int32) (f_o0_size : Int32) (f_o0_badColumn : Int32) (a_o0_products_cells : Nat → Int32) : Nat → Int32 → Int32 → (Nat → Int32) → Prop
  | 0 => fun _ _ _ => False
  | fu + 1 => fun x4 x5 a_o1 => ((f_o0_size ≤ x5 → (KL34 x4 a_o1)) ∧ (¬ f_o0_size ≤ x5 → ((¬ (x3 &&& (1 <<< (x5 &&& 31))) = 0 → (∀ x5_9 : Int32, x5_9 = x5 + 1 → ((wp_X0_countExtensions_L34 REC KL34 x2 x3 f_o0_size f_o0_badColumn a_o0_products_cells fu) x4 x5_9 a_o1))) ∧ ((x3 &&& (1 <<< (x5 &&& 31))) = 0 → (vp_in x2 6 ∧ (∀ a_o1_10 : Nat → Int32, a_o1_10 = upd a_o1 x2.toNatClampNeg x5 → (REC (fun (r_12 : Int32) (a_o1_11 : Nat → Int32) => (∀ x4_13 : Int32, x4_13 = x4 + r_12 → (∀ x5_14 : Int32, x5_14 = x5 + 1 → ((wp_X0_countExtensions_L34 REC KL34 x2 x3 f_o0_size f_o0_badColumn a_o0_products_cells fu) x4_13 x5_14 a_o1_11)))) f_o0_size f_o0_badColumn a_o0_products_cells a_o1_10 (x2 + 1) (x3 ||| (1 <<< (x5 &&& 31))))))))))
def wp_X0_countExtensions : Nat → (Int32 → (Nat → Int32) → Prop) → Int32 → Int32 → (Nat → Int32) → (Nat → Int32) → Int32 → Int32 → Prop
  | 0 => fun _ _ _ _ _ _ _ => False
  | d + 1 => fun post f_o0_size f_o0_badColumn a_o0_products_cells a_o1 x2 x3 => ((f_o0_size ≤ x2 → (wp_X0_countExtensions_J14 post f_o0_size a_o0_products_cells a_o1)) ∧ (¬ f_o0_size ≤ x2 → ((x2 < 6 → (∃ fu_17 : Nat, wp_X0_countExtensions_L34 (wp_X0_countExtensions d) (fun (x4_15 : Int32) (a_o1_16 : Nat → Int32) => (post x4_15 a_o1_16)) x2 x3 f_o0_size f_o0_badColumn a_o0_products_cells fu_17 0 0 a_o1)) ∧ (¬ x2 < 6 → (wp_X0_countExtensions_J14 post f_o0_size a_o0_products_cells a_o1)))))
set_option maxHeartbeats 4000000 in
set_option maxRecDepth 100000 in
theorem l_X0_countExtensions_34 {p : Program} {l : Launch} {e : Env} {s : State} {m : MethodId} {args : Array Value} {below : List Frame} {meth : Method} {c : Code} {G : qn_G} {A : Nat → Prop} {h_o0 h_o0_products h_o0_quotients h_o0_products_cells h_o1 : Nat} {d : Nat} {REC : (Int32 → (Nat → Int32) → Prop) → Int32 → Int32 → (Nat → Int32) → (Nat → Int32) → Int32 → Int32 → Prop} {f_o0_size : Int32} {f_o0_badColumn : Int32} {a_o0_products_cells : Nat → Int32} {x2 : Int32} {x3 : Int32} {post : Int32 → (Nat → Int32) → Prop} {KL34 : Int32 → (Nat → Int32) → Prop} (C0 : qn_C p m c cX0_countExtensions 6 s args wsX0_countExtensions RX0 meth (some .int)) (hE : qn_EV G s) (hA : ∀ q, s.heap.size ≤ q → A q) (hRec : ∀ (G : qn_G) (sz : Nat) (h_o0 h_o0_products h_o0_quotients h_o0_products_cells h_o1 : Nat) (f_o0_size : Int32) (f_o0_badColumn : Int32) (a_o0_products_cells : Nat → Int32) (a_o1 : Nat → Int32) (x2 : Int32) (x3 : Int32) {post : Int32 → (Nat → Int32) → Prop}, REC post f_o0_size f_o0_badColumn a_o0_products_cells a_o1 x2 x3 → Met l yX0_countExtensions wsX0_countExtensions (rm_X0_countExtensions d) (qn_PC G [.ref h_o0, .ref h_o1, .int x2, .int x3] sz (wd_X0_countExtensions G h_o0 h_o0_products h_o0_quotients h_o0_products_cells h_o1 f_o0_size f_o0_badColumn a_o0_products_cells a_o1)) (qn_QI G (fun (r : Int32) (u : (Nat → Int32)) => post r u) (fun u : (Nat → Int32) => wd_X0_countExtensions G h_o0 h_o0_products h_o0_quotients h_o0_products_cells h_o1 f_o0_size f_o0_badColumn a_o0_products_cells u) (va_A (wd_X0_countExtensions G h_o0 h_o0_products h_o0_quotients h_o0_products_cells h_o1 f_o0_size f_o0_badColumn a_o0_products_cells a_o1) sz)) 0 0 (va_A (wd_X0_countExtensions G h_o0 h_o0_products h_o0_quotients h_o0_products_cells h_o1 f_o0_size f_o0_badColumn a_o0_products_cells a_o1) sz)) (hKc : ∀ (x4 : Int32) (a_o1 : Nat → Int32), KL34 x4 a_o1 → ∀ (H : Heap) (locs : List Loc) (ls : Array Slot), va_P G.1 vwCl (wd_X0_countExtensions G h_o0 h_o0_products h_o0_quotients h_o0_products_cells h_o1 f_o0_size f_o0_badColumn a_o0_products_cells a_o1) H → va_D A (wd_X0_countExtensions G h_o0 h_o0_products h_o0_quotients h_o0_products_cells h_o1 f_o0_size f_o0_badColumn a_o0_products_cells a_o1) → va_S A s.heap H locs → lv_has ls 6 [(4, .int x4)] → W p l e (headSpec wsX0_countExtensions (rm_X0_countExtensions (d + 1))).room s m args below meth c H locs 0 0 (MQ below (qn_QI G (fun (r : Int32) (u : (Nat → Int32)) => post r u) (fun u : (Nat → Int32) => wd_X0_countExtensions G h_o0 h_o0_products h_o0_quotients h_o0_products_cells h_o1 f_o0_size f_o0_badColumn a_o0_products_cells u) A) args s 0 0 A) (F0 m 82 ls [])) :
    ∀ (fu : Nat) (x4 : Int32) (x5 : Int32) (a_o1 : Nat → Int32), wp_X0_countExtensions_L34 REC KL34 x2 x3 f_o0_size f_o0_badColumn a_o0_products_cells fu x4 x5 a_o1 → ∀ (H : Heap) (locs : List Loc) (ls : Array Slot), va_P G.1 vwCl (wd_X0_countExtensions G h_o0 h_o0_products h_o0_quotients h_o0_products_cells h_o1 f_o0_size f_o0_badColumn a_o0_products_cells a_o1) H → va_D A (wd_X0_countExtensions G h_o0 h_o0_products h_o0_quotients h_o0_products_cells h_o1 f_o0_size f_o0_badColumn a_o0_products_cells a_o1) → va_S A s.heap H locs → lv_has ls 6 [(0, .ref h_o0), (1, .ref h_o1), (2, .int x2), (3, .int x3), (4, .int x4), (5, .int x5)] → W p l e (headSpec wsX0_countExtensions (rm_X0_countExtensions (d + 1))).room s m args below meth c H locs 0 0 (MQ below (qn_QI G (fun (r : Int32) (u : (Nat → Int32)) => post r u) (fun u : (Nat → Int32) => wd_X0_countExtensions G h_o0 h_o0_products h_o0_quotients h_o0_products_cells h_o1 f_o0_size f_o0_badColumn a_o0_products_cells u) A) args s 0 0 A) (F0 m 34 ls []) := by
  obtain ⟨hx, hb, hml, hown, hts, hr, hlocks⟩ := id C0
  intro fu
  induction fu with
  | zero => intro x4 x5 a_o1 hw; exact hw.elim
  | succ fu ih =>
    intro x4 x5 a_o1 hw H locs ls hP hD hS hl
    refine lv_iload hx hb dX0_countExtensions_34 (lv_at hl 5 rfl) ?_
    refine lv_aload_n hx hb dX0_countExtensions_36 rfl (lv_at hl 0 rfl) ?_
    refine va_getN (D := G.1) (ci := 5) (v := .int f_o0_size) (C := RX5) (T := TX5) (N := 4) hx hb hts in_X0_countExtensions_X5 hown hE.1 hP 0 rfl rfl 0 (by decide) (va_Nw.use rfl (qn_f_Automorphisms_19 hE.2.1)) (fun _ h9 => h9) rfl dX0_countExtensions_37 ?_
    refine lv_icmp_ge (tgt := 82) hx hb dX0_countExtensions_40 (by decide) (fun c_7 => ?_) (fun c_7 => ?_)
    · have hw := hw.1 c_7
      exact hKc x4 a_o1 hw _ _ _ hP hD hS (lv_sub hl [4] rfl)
    · have hw := hw.2 c_7
      refine lv_iload_n hx hb dX0_countExtensions_43 rfl (lv_at hl 3 rfl) ?_
      refine lv_iconst (v := 1) hx hb dX0_countExtensions_44 (by decide) ?_
      refine lv_iload hx hb dX0_countExtensions_45 (lv_at hl 5 rfl) ?_
      refine lv_ishl hx hb dX0_countExtensions_47 ?_
      refine lv_iand hx hb dX0_countExtensions_48 ?_
      refine lv_if_ne (tgt := 76) hx hb dX0_countExtensions_49 (by decide) (fun c_8 => ?_) (fun c_8 => ?_)
      · have hw := hw.1 c_8
        obtain ⟨x5_9, ex5_9⟩ : ∃ y : Int32, y = x5 + 1 := ⟨_, rfl⟩
        have hw := hw x5_9 ex5_9
        refine lv_iinc (v := x5_9) (lv' := [(5, .int x5_9), (0, .ref h_o0), (1, .ref h_o1), (2, .int x2), (3, .int x3), (4, .int x4)]) hx hb dX0_countExtensions_76 hl (k := 5) rfl (by rw [ex5_9]; rfl) (by decide) rfl (fun ls hl => ?_)
        refine lv_goto (tgt := 34) hx hb dX0_countExtensions_79 (by decide) ?_
        exact ih x4 x5_9 a_o1 hw _ _ _ hP hD hS (lv_sub hl [1, 2, 3, 4, 5, 0] rfl)
      · have hw := hw.2 c_8
        refine lv_aload_n hx hb dX0_countExtensions_52 rfl (lv_at hl 1 rfl) ?_
        refine lv_iload_n hx hb dX0_countExtensions_53 rfl (lv_at hl 2 rfl) ?_
        refine lv_iload hx hb dX0_countExtensions_54 (lv_at hl 5 rfl) ?_
        have hin := hw.1
        have hw := hw.2
        obtain ⟨a_o1_10, ea_o1_10⟩ : ∃ y : Nat → Int32, y = upd a_o1 x2.toNatClampNeg x5 := ⟨_, rfl⟩
        have hw := hw a_o1_10 ea_o1_10
        refine va_iast hx hb hE.1 hP hD hS 3 0 rfl rfl hin dX0_countExtensions_56 (fun H locs hP hD hS => ?_)
        rw [← ea_o1_10] at hP hD
        have hP : va_P G.1 vwCl (wd_X0_countExtensions G h_o0 h_o0_products h_o0_quotients h_o0_products_cells h_o1 f_o0_size f_o0_badColumn a_o0_products_cells a_o1_10) H := hP
        have hD : va_D A (wd_X0_countExtensions G h_o0 h_o0_products h_o0_quotients h_o0_products_cells h_o1 f_o0_size f_o0_badColumn a_o0_products_cells a_o1_10) := hD
        refine lv_iload hx hb dX0_countExtensions_57 (lv_at hl 4 rfl) ?_
        refine lv_aload_n hx hb dX0_countExtensions_59 rfl (lv_at hl 0 rfl) ?_
        refine lv_aload_n hx hb dX0_countExtensions_60 rfl (lv_at hl 1 rfl) ?_
        refine lv_iload_n hx hb dX0_countExtensions_61 rfl (lv_at hl 2 rfl) ?_
        refine lv_iconst (v := 1) hx hb dX0_countExtensions_62 (by decide) ?_
        refine lv_iadd hx hb dX0_countExtensions_63 ?_
        refine lv_iload_n hx hb dX0_countExtensions_64 rfl (lv_at hl 3 rfl) ?_
        refine lv_iconst (v := 1) hx hb dX0_countExtensions_65 (by decide) ?_
        refine lv_iload hx hb dX0_countExtensions_66 (lv_at hl 5 rfl) ?_
        refine lv_ishl hx hb dX0_countExtensions_68 ?_
        refine lv_ior hx hb dX0_countExtensions_69 ?_
        have hC9 : ([0, 1, 2, 3]).map (fun i => (wd_X0_countExtensions G h_o0 h_o0_products h_o0_quotients h_o0_products_cells h_o1 f_o0_size f_o0_badColumn a_o0_products_cells a_o1_10)[i]?) = (wd_X0_countExtensions G h_o0 h_o0_products h_o0_quotients h_o0_products_cells h_o1 f_o0_size f_o0_badColumn a_o0_products_cells a_o1_10).map some := rfl
        refine qn_callI (wd := (fun u : (Nat → Int32) => wd_X0_countExtensions G h_o0 h_o0_products h_o0_quotients h_o0_products_cells h_o1 f_o0_size f_o0_badColumn a_o0_products_cells u)) [0, 1, 2, 3] (va_runS (As := [.ref h_o0, .ref h_o1, .int (x2 + 1), .int (x3 ||| (1 <<< (x5 &&& 31)))]) (rest := [.int x4]) ⟨hx, hb, hml, hown, hts⟩ (hRec G _ h_o0 h_o0_products h_o0_quotients h_o0_products_cells h_o1 f_o0_size f_o0_badColumn a_o0_products_cells a_o1_10 (x2 + 1) (x3 ||| (1 <<< (x5 &&& 31))) hw) (va_cwS 4 hts gX0_countExtensions_X0_countExtensions rfl rfl rfl (by decide +kernel) ⟨(by omega : 4 + d + 1 ≤ 4 + (d + 1)), (by omega : 8 + (6 + 11) + (89 + d * 25) ≤ 89 + (d + 1) * 25)⟩) (qn_preS hE hP hD [0, 1, 2, 3] hC9 (by decide +kernel)) rfl rfl hl.1 rfl (lv_room (Nat.le_of_ble_eq_true rfl)) dX0_countExtensions_70 ⟨Nat.le_of_ble_eq_true rfl, Nat.le_of_ble_eq_true rfl⟩) hP hD hS hA hC9 [some 0, some 1, some 2, some 3] (M := 4) rfl (by decide +kernel) (fun _ => rfl) (fun _ => rfl) (fun r_12 a_o1_11 H locs hw hP hD hS => ?_)
        try dsimp only at hw
        have hP : va_P G.1 vwCl (wd_X0_countExtensions G h_o0 h_o0_products h_o0_quotients h_o0_products_cells h_o1 f_o0_size f_o0_badColumn a_o0_products_cells a_o1_11) H := hP
        have hD : va_D A (wd_X0_countExtensions G h_o0 h_o0_products h_o0_quotients h_o0_products_cells h_o1 f_o0_size f_o0_badColumn a_o0_products_cells a_o1_11) := hD
        refine lv_iadd hx hb dX0_countExtensions_73 ?_
        refine lv_topi (fun x4_13 ex4_13 => ?_)
        have hw := hw x4_13 ex4_13
        refine lv_istore (lv' := [(4, .int x4_13), (0, .ref h_o0), (1, .ref h_o1), (2, .int x2), (3, .int x3), (5, .int x5)]) hx hb dX0_countExtensions_74 hl (by decide) rfl (fun ls hl => ?_)
        obtain ⟨x5_14, ex5_14⟩ : ∃ y : Int32, y = x5 + 1 := ⟨_, rfl⟩
        have hw := hw x5_14 ex5_14
        refine lv_iinc (v := x5_14) (lv' := [(5, .int x5_14), (4, .int x4_13), (0, .ref h_o0), (1, .ref h_o1), (2, .int x2), (3, .int x3)]) hx hb dX0_countExtensions_76 hl (k := 5) rfl (by rw [ex5_14]; rfl) (by decide) rfl (fun ls hl => ?_)
        refine lv_goto (tgt := 34) hx hb dX0_countExtensions_79 (by decide) ?_
        exact ih x4_13 x5_14 a_o1_11 hw _ _ _ hP hD hS (lv_sub hl [2, 3, 4, 5, 1, 0] rfl)
set_option maxHeartbeats 4000000 in
set_option maxRecDepth 100000 in
theorem c_X0_countExtensions {l : Launch} : ∀ (d : Nat), ∀ (G : qn_G) (sz : Nat) (h_o0 h_o0_products h_o0_quotients h_o0_products_cells h_o1 : Nat) (f_o0_size : Int32) (f_o0_badColumn : Int32) (a_o0_products_cells : Nat → Int32) (a_o1 : Nat → Int32) (x2 : Int32) (x3 : Int32) {post : Int32 → (Nat → Int32) → Prop}, wp_X0_countExtensions d post f_o0_size f_o0_badColumn a_o0_products_cells a_o1 x2 x3 → Met l yX0_countExtensions wsX0_countExtensions (rm_X0_countExtensions d) (qn_PC G [.ref h_o0, .ref h_o1, .int x2, .int x3] sz (wd_X0_countExtensions G h_o0 h_o0_products h_o0_quotients h_o0_products_cells h_o1 f_o0_size f_o0_badColumn a_o0_products_cells a_o1)) (qn_QI G (fun (r : Int32) (u : (Nat → Int32)) => post r u) (fun u : (Nat → Int32) => wd_X0_countExtensions G h_o0 h_o0_products h_o0_quotients h_o0_products_cells h_o1 f_o0_size f_o0_badColumn a_o0_products_cells u) (va_A (wd_X0_countExtensions G h_o0 h_o0_products h_o0_quotients h_o0_products_cells h_o1 f_o0_size f_o0_badColumn a_o0_products_cells a_o1) sz)) 0 0 (va_A (wd_X0_countExtensions G h_o0 h_o0_products h_o0_quotients h_o0_products_cells h_o1 f_o0_size f_o0_badColumn a_o0_products_cells a_o1) sz) := by
  intro d
  induction d with
  | zero => intro G sz _ _ _ _ _ _ _ _ _ _ _ post hw; exact hw.elim
  | succ d hRec =>
  intro G sz h_o0 h_o0_products h_o0_quotients h_o0_products_cells h_o1 f_o0_size f_o0_badColumn a_o0_products_cells a_o1 x2 x3 post hw
  refine Met.ofW (cc := cX0_countExtensions) (maxL := 6) (ret := (some .int)) (by decide) rfl ?_
  intro p e s m args below meth c s₁ B hml hv
  obtain ⟨rfl, hsz, hP, hE, hD0⟩ := hv
  have C0 : qn_C p m c cX0_countExtensions 6 s _ wsX0_countExtensions RX0 meth (some .int) := qn_C0 B hml
  obtain ⟨hx, hb, -, hown, hts, hr, hlocks⟩ := id C0
  subst hsz
  have hD := hD0.self (sz := s.heap.size)
  generalize hAe : va_A (wd_X0_countExtensions G h_o0 h_o0_products h_o0_quotients h_o0_products_cells h_o1 f_o0_size f_o0_badColumn a_o0_products_cells a_o1) s.heap.size = A at hD ⊢
  have hA : ∀ q : Nat, s.heap.size ≤ q → A q := fun q h => by rw [← hAe]; exact Or.inr h
  clear hAe
  have hS : va_S A s.heap s.heap [] := va_S.rf
  have hl := lv_entry ([.ref h_o0, .ref h_o1, .int x2, .int x3]) (n := 6) (Nat.le_of_ble_eq_true rfl)
  rw [lg_entry_eq]
  generalize (lg_sl ([.ref h_o0, .ref h_o1, .int x2, .int x3]) ++ List.replicate (6 - (lg_sl ([.ref h_o0, .ref h_o1, .int x2, .int x3])).length) Slot.unset).toArray = ls at hl ⊢
  have hl : lv_has ls 6 [(0, .ref h_o0), (1, .ref h_o1), (2, .int x2), (3, .int x3)] := hl
  have hP : va_P G.1 vwCl (wd_X0_countExtensions G h_o0 h_o0_products h_o0_quotients h_o0_products_cells h_o1 f_o0_size f_o0_badColumn a_o0_products_cells a_o1) s.heap := hP
  refine lv_iload_n hx hb dX0_countExtensions_0 rfl (lv_at hl 2 rfl) ?_
  refine lv_aload_n hx hb dX0_countExtensions_1 rfl (lv_at hl 0 rfl) ?_
  refine va_getN (D := G.1) (ci := 5) (v := .int f_o0_size) (C := RX5) (T := TX5) (N := 4) hx hb hts in_X0_countExtensions_X5 hown hE.1 hP 0 rfl rfl 0 (by decide) (va_Nw.use rfl (qn_f_Automorphisms_19 hE.2.1)) (fun _ h9 => h9) rfl dX0_countExtensions_2 ?_
  refine lv_icmp_ge (tgt := 14) hx hb dX0_countExtensions_5 (by decide) (fun c_1 => ?_) (fun c_1 => ?_)
  · have hw := hw.1 c_1
    refine lv_aload_n hx hb dX0_countExtensions_14 rfl (lv_at hl 0 rfl) ?_
    refine lv_aload_n hx hb dX0_countExtensions_15 rfl (lv_at hl 1 rfl) ?_
    have hC9 : ([0, 1, 2, 3]).map (fun i => (wd_X0_countExtensions G h_o0 h_o0_products h_o0_quotients h_o0_products_cells h_o1 f_o0_size f_o0_badColumn a_o0_products_cells a_o1)[i]?) = (wd_X0_isHomomorphism G h_o0 h_o0_products h_o0_quotients h_o0_products_cells h_o1 f_o0_size f_o0_badColumn a_o0_products_cells a_o1).map some := rfl
    refine qn_callI (wd := (fun u : Unit => wd_X0_countExtensions G h_o0 h_o0_products h_o0_quotients h_o0_products_cells h_o1 f_o0_size f_o0_badColumn a_o0_products_cells a_o1)) [0, 1, 2, 3] (va_runS (As := [.ref h_o0, .ref h_o1]) (rest := []) ⟨hx, hb, hml, hown, hts⟩ (c_X0_isHomomorphism G _ h_o0 h_o0_products h_o0_quotients h_o0_products_cells h_o1 f_o0_size f_o0_badColumn a_o0_products_cells a_o1 hw) (va_cwS 2 hts gX0_countExtensions_X0_isHomomorphism rfl rfl rfl (by decide +kernel) ⟨(by omega : 3 + 1 ≤ 4 + (d + 1)), (by omega : 8 + (5 + 11) + 65 ≤ 89 + (d + 1) * 25)⟩) (qn_preS hE hP hD [0, 1, 2, 3] hC9 (by decide +kernel)) rfl rfl hl.1 rfl (lv_room (Nat.le_of_ble_eq_true rfl)) dX0_countExtensions_16 ⟨Nat.le_of_ble_eq_true rfl, Nat.le_of_ble_eq_true rfl⟩) hP hD hS hA hC9 [some 0, some 1, some 2, some 3] (M := 4) rfl (by decide +kernel) (fun _ => rfl) (fun _ => rfl) (fun r_4 _ H locs hw hP hD hS => ?_)
    try dsimp only at hw
    have hP : va_P G.1 vwCl (wd_X0_countExtensions G h_o0 h_o0_products h_o0_quotients h_o0_products_cells h_o1 f_o0_size f_o0_badColumn a_o0_products_cells a_o1) H := hP
    have hD : va_D A (wd_X0_countExtensions G h_o0 h_o0_products h_o0_quotients h_o0_products_cells h_o1 f_o0_size f_o0_badColumn a_o0_products_cells a_o1) := hD
    refine lv_if_eq (tgt := 26) hx hb dX0_countExtensions_19 (by decide) (fun c_5 => ?_) (fun c_5 => ?_)
    · have hw := hw.1 c_5
      refine lv_iconst (v := 0) hx hb dX0_countExtensions_26 (by decide) ?_
      exact W.iret (v := 0) hx hb hr (fun t ht hW => ⟨⟨0, a_o1, rfl, hw, by rw [ht]; exact hP, hD⟩, hS.F ht⟩) hS.2.2 dX0_countExtensions_27
    · have hw := hw.2 c_5
      refine lv_iconst (v := 1) hx hb dX0_countExtensions_22 (by decide) ?_
      refine lv_goto (tgt := 27) hx hb dX0_countExtensions_23 (by decide) ?_
      exact W.iret (v := 1) hx hb hr (fun t ht hW => ⟨⟨1, a_o1, rfl, hw, by rw [ht]; exact hP, hD⟩, hS.F ht⟩) hS.2.2 dX0_countExtensions_27
  · have hw := hw.2 c_1
    refine lv_iload_n hx hb dX0_countExtensions_8 rfl (lv_at hl 2 rfl) ?_
    refine lv_aload_n hx hb dX0_countExtensions_9 rfl (lv_at hl 1 rfl) ?_
    refine va_alen hx hb hE.1 hP 3 0 rfl rfl (v := 6) rfl dX0_countExtensions_10 ?_
    refine lv_icmp_lt (tgt := 28) hx hb dX0_countExtensions_11 (by decide) (fun c_6 => ?_) (fun c_6 => ?_)
    · have hw := hw.1 c_6
      refine lv_iconst (v := 0) hx hb dX0_countExtensions_28 (by decide) ?_
      refine lv_istore (lv' := [(4, .int 0), (0, .ref h_o0), (1, .ref h_o1), (2, .int x2), (3, .int x3)]) hx hb dX0_countExtensions_29 hl (by decide) rfl (fun ls hl => ?_)
      refine lv_iconst (v := 0) hx hb dX0_countExtensions_31 (by decide) ?_
      refine lv_istore (lv' := [(5, .int 0), (4, .int 0), (0, .ref h_o0), (1, .ref h_o1), (2, .int x2), (3, .int x3)]) hx hb dX0_countExtensions_32 hl (by decide) rfl (fun ls hl => ?_)
      obtain ⟨fu_17, hw⟩ := hw
      refine l_X0_countExtensions_34 (post := post) C0 hE hA hRec (fun x4_15 a_o1_16 hw H locs ls hP hD hS hl => ?_) fu_17 0 0 a_o1 hw _ _ _ hP hD hS (lv_sub hl [2, 3, 4, 5, 1, 0] rfl)
      refine lv_iload hx hb dX0_countExtensions_82 (lv_at hl 0 rfl) ?_
      exact W.iret (v := x4_15) hx hb hr (fun t ht hW => ⟨⟨x4_15, a_o1_16, rfl, hw, by rw [ht]; exact hP, hD⟩, hS.F ht⟩) hS.2.2 dX0_countExtensions_84
    · have hw := hw.2 c_6
      refine lv_aload_n hx hb dX0_countExtensions_14 rfl (lv_at hl 0 rfl) ?_
      refine lv_aload_n hx hb dX0_countExtensions_15 rfl (lv_at hl 1 rfl) ?_
      have hC9 : ([0, 1, 2, 3]).map (fun i => (wd_X0_countExtensions G h_o0 h_o0_products h_o0_quotients h_o0_products_cells h_o1 f_o0_size f_o0_badColumn a_o0_products_cells a_o1)[i]?) = (wd_X0_isHomomorphism G h_o0 h_o0_products h_o0_quotients h_o0_products_cells h_o1 f_o0_size f_o0_badColumn a_o0_products_cells a_o1).map some := rfl
      refine qn_callI (wd := (fun u : Unit => wd_X0_countExtensions G h_o0 h_o0_products h_o0_quotients h_o0_products_cells h_o1 f_o0_size f_o0_badColumn a_o0_products_cells a_o1)) [0, 1, 2, 3] (va_runS (As := [.ref h_o0, .ref h_o1]) (rest := []) ⟨hx, hb, hml, hown, hts⟩ (c_X0_isHomomorphism G _ h_o0 h_o0_products h_o0_quotients h_o0_products_cells h_o1 f_o0_size f_o0_badColumn a_o0_products_cells a_o1 hw) (va_cwS 2 hts gX0_countExtensions_X0_isHomomorphism rfl rfl rfl (by decide +kernel) ⟨(by omega : 3 + 1 ≤ 4 + (d + 1)), (by omega : 8 + (5 + 11) + 65 ≤ 89 + (d + 1) * 25)⟩) (qn_preS hE hP hD [0, 1, 2, 3] hC9 (by decide +kernel)) rfl rfl hl.1 rfl (lv_room (Nat.le_of_ble_eq_true rfl)) dX0_countExtensions_16 ⟨Nat.le_of_ble_eq_true rfl, Nat.le_of_ble_eq_true rfl⟩) hP hD hS hA hC9 [some 0, some 1, some 2, some 3] (M := 4) rfl (by decide +kernel) (fun _ => rfl) (fun _ => rfl) (fun r_18 _ H locs hw hP hD hS => ?_)
      try dsimp only at hw
      have hP : va_P G.1 vwCl (wd_X0_countExtensions G h_o0 h_o0_products h_o0_quotients h_o0_products_cells h_o1 f_o0_size f_o0_badColumn a_o0_products_cells a_o1) H := hP
      have hD : va_D A (wd_X0_countExtensions G h_o0 h_o0_products h_o0_quotients h_o0_products_cells h_o1 f_o0_size f_o0_badColumn a_o0_products_cells a_o1) := hD
      refine lv_if_eq (tgt := 26) hx hb dX0_countExtensions_19 (by decide) (fun c_19 => ?_) (fun c_19 => ?_)
      · have hw := hw.1 c_19
        refine lv_iconst (v := 0) hx hb dX0_countExtensions_26 (by decide) ?_
        exact W.iret (v := 0) hx hb hr (fun t ht hW => ⟨⟨0, a_o1, rfl, hw, by rw [ht]; exact hP, hD⟩, hS.F ht⟩) hS.2.2 dX0_countExtensions_27
      · have hw := hw.2 c_19
        refine lv_iconst (v := 1) hx hb dX0_countExtensions_22 (by decide) ?_
        refine lv_goto (tgt := 27) hx hb dX0_countExtensions_23 (by decide) ?_
        exact W.iret (v := 1) hx hb hr (fun t ht hW => ⟨⟨1, a_o1, rfl, hw, by rw [ht]; exact hP, hD⟩, hS.F ht⟩) hS.2.2 dX0_countExtensions_27
-- QuandleColorings$Automorphisms.countFor(LQuandleColorings$Operation;)I
abbrev rm_X0_countFor : Room := { frames := 13, cells := 0, slots := 0, locals := 314 }
abbrev wd_X0_countFor (G : qn_G) (h_this h_images h_o1 h_o1_products h_o1_quotients h_o1_products_cells : Nat) (a_images : Nat → Int32) (f_o1_size : Int32) (f_o1_badColumn : Int32) (a_o1_products_cells : Nat → Int32) : va_W := [(h_this, .inr (0, [.ref h_images])), (h_images, .inl (G.2.1, 6, .inl a_images)), (h_o1, .inr (5, [.int f_o1_size, .ref h_o1_products, .ref h_o1_quotients, .int f_o1_badColumn])), (h_o1_products, .inr (2, [.ref h_o1_products_cells])), (h_o1_products_cells, .inl (G.2.1, 36, .inl a_o1_products_cells))]
theorem in_X0_countFor_X0 : ∀ w ∈ u_ws RX0 TX0 1, w ∈ wsX0_countFor := by decide +kernel
theorem lk_X0_countFor_9 : Cond.fieldLink RX0 9 "QuandleColorings$Automorphisms" "images" "[I" ∈ wsX0_countFor := by decide +kernel
def wp_X0_countFor (post : Int32 → (Nat → Int32) → Prop) (a_images : Nat → Int32) (f_o1_size : Int32) (f_o1_badColumn : Int32) (a_o1_products_cells : Nat → Int32) : Prop := (wp_X0_countExtensions 8 (fun (r_2 : Int32) (a_images_1 : Nat → Int32) => (post r_2 a_images_1)) f_o1_size f_o1_badColumn a_o1_products_cells a_images 0 0)
set_option maxHeartbeats 4000000 in
set_option maxRecDepth 100000 in
theorem c_X0_countFor {l : Launch} (G : qn_G) (sz : Nat) (h_this h_images h_o1 h_o1_products h_o1_quotients h_o1_products_cells : Nat) (a_images : Nat → Int32) (f_o1_size : Int32) (f_o1_badColumn : Int32) (a_o1_products_cells : Nat → Int32) {post : Int32 → (Nat → Int32) → Prop} (hw : wp_X0_countFor post a_images f_o1_size f_o1_badColumn a_o1_products_cells) : Met l yX0_countFor wsX0_countFor rm_X0_countFor (qn_PC G [.ref h_this, .ref h_o1] sz (wd_X0_countFor G h_this h_images h_o1 h_o1_products h_o1_quotients h_o1_products_cells a_images f_o1_size f_o1_badColumn a_o1_products_cells)) (qn_QI G (fun (r : Int32) (u : (Nat → Int32)) => post r u) (fun u : (Nat → Int32) => wd_X0_countFor G h_this h_images h_o1 h_o1_products h_o1_quotients h_o1_products_cells u f_o1_size f_o1_badColumn a_o1_products_cells) (va_A (wd_X0_countFor G h_this h_images h_o1 h_o1_products h_o1_quotients h_o1_products_cells a_images f_o1_size f_o1_badColumn a_o1_products_cells) sz)) 0 0 (va_A (wd_X0_countFor G h_this h_images h_o1 h_o1_products h_o1_quotients h_o1_products_cells a_images f_o1_size f_o1_badColumn a_o1_products_cells) sz) := by
  refine Met.ofW (cc := cX0_countFor) (maxL := 2) (ret := (some .int)) (by decide) rfl ?_
  intro p e s m args below meth c s₁ B hml hv
  obtain ⟨rfl, hsz, hP, hE, hD0⟩ := hv
  have C0 : qn_C p m c cX0_countFor 2 s _ wsX0_countFor RX0 meth (some .int) := qn_C0 B hml
  obtain ⟨hx, hb, -, hown, hts, hr, hlocks⟩ := id C0
  subst hsz
  have hD := hD0.self (sz := s.heap.size)
  generalize hAe : va_A (wd_X0_countFor G h_this h_images h_o1 h_o1_products h_o1_quotients h_o1_products_cells a_images f_o1_size f_o1_badColumn a_o1_products_cells) s.heap.size = A at hD ⊢
  have hA : ∀ q : Nat, s.heap.size ≤ q → A q := fun q h => by rw [← hAe]; exact Or.inr h
  clear hAe
  have hS : va_S A s.heap s.heap [] := va_S.rf
  have hl := lv_entry ([.ref h_this, .ref h_o1]) (n := 2) (Nat.le_of_ble_eq_true rfl)
  rw [lg_entry_eq]
  generalize (lg_sl ([.ref h_this, .ref h_o1]) ++ List.replicate (2 - (lg_sl ([.ref h_this, .ref h_o1])).length) Slot.unset).toArray = ls at hl ⊢
  have hl : lv_has ls 2 [(0, .ref h_this), (1, .ref h_o1)] := hl
  have hP : va_P G.1 vwCl (wd_X0_countFor G h_this h_images h_o1 h_o1_products h_o1_quotients h_o1_products_cells a_images f_o1_size f_o1_badColumn a_o1_products_cells) s.heap := hP
  refine lv_aload_n hx hb dX0_countFor_0 rfl (lv_at hl 1 rfl) ?_
  refine lv_aload_n hx hb dX0_countFor_1 rfl (lv_at hl 0 rfl) ?_
  refine va_get (D := G.1) (ci := 0) (v := .ref h_images) (C := RX0) (T := TX0) (N := 1) hx hb hts in_X0_countFor_X0 hown hE.1 hP 0 rfl rfl 0 (by decide) (hts (.fieldLink RX0 9 "QuandleColorings$Automorphisms" "images" "[I") lk_X0_countFor_9) (fun _ h9 => h9) rfl dX0_countFor_2 ?_
  refine lv_iconst (v := 0) hx hb dX0_countFor_5 (by decide) ?_
  refine lv_iconst (v := 0) hx hb dX0_countFor_6 (by decide) ?_
  have hC9 : ([2, 3, 4, 1]).map (fun i => (wd_X0_countFor G h_this h_images h_o1 h_o1_products h_o1_quotients h_o1_products_cells a_images f_o1_size f_o1_badColumn a_o1_products_cells)[i]?) = (wd_X0_countExtensions G h_o1 h_o1_products h_o1_quotients h_o1_products_cells h_images f_o1_size f_o1_badColumn a_o1_products_cells a_images).map some := rfl
  refine qn_callI (wd := (fun u : (Nat → Int32) => wd_X0_countFor G h_this h_images h_o1 h_o1_products h_o1_quotients h_o1_products_cells u f_o1_size f_o1_badColumn a_o1_products_cells)) [2, 3, 4, 1] (va_runS (As := [.ref h_o1, .ref h_images, .int 0, .int 0]) (rest := []) ⟨hx, hb, hml, hown, hts⟩ (c_X0_countExtensions 8 G _ h_o1 h_o1_products h_o1_quotients h_o1_products_cells h_images f_o1_size f_o1_badColumn a_o1_products_cells a_images 0 0 hw) (va_cwS 4 hts gX0_countFor_X0_countExtensions rfl rfl rfl (by decide +kernel) ⟨Nat.le_of_ble_eq_true rfl, Nat.le_of_ble_eq_true rfl⟩) (qn_preS hE hP hD [2, 3, 4, 1] hC9 (by decide +kernel)) rfl rfl hl.1 rfl (lv_room (Nat.le_of_ble_eq_true rfl)) dX0_countFor_7 ⟨Nat.le_of_ble_eq_true rfl, Nat.le_of_ble_eq_true rfl⟩) hP hD hS hA hC9 [none, some 3, some 0, some 1, some 2] (M := 5) rfl (by decide +kernel) (fun _ => rfl) (fun _ => rfl) (fun r_2 a_images_1 H locs hw hP hD hS => ?_)
  try dsimp only at hw
  have hP : va_P G.1 vwCl (wd_X0_countFor G h_this h_images h_o1 h_o1_products h_o1_quotients h_o1_products_cells a_images_1 f_o1_size f_o1_badColumn a_o1_products_cells) H := hP
  have hD : va_D A (wd_X0_countFor G h_this h_images h_o1 h_o1_products h_o1_quotients h_o1_products_cells a_images_1 f_o1_size f_o1_badColumn a_o1_products_cells) := hD
  exact W.iret (v := r_2) hx hb hr (fun t ht hW => ⟨⟨r_2, a_images_1, rfl, hw, by rw [ht]; exact hP, hD⟩, hS.F ht⟩) hS.2.2 dX0_countFor_10
-- QuandleColorings$Braid.allows(I)Z
abbrev rm_X1_allows : Room := { frames := 0, cells := 0, slots := 0, locals := 0 }
abbrev wd_X1_allows (G : qn_G) (h_this h_crossings : Nat) (f_strands : Int32) (f_count : Int32) : va_W := [(h_this, .inr (1, [.int f_strands, .int f_count, .ref h_crossings]))]
theorem in_X1_allows_X1 : ∀ w ∈ u_ws RX1 TX1 3, w ∈ wsX1_allows := by decide +kernel
theorem lk_X1_allows_9 : Cond.fieldLink RX1 9 "QuandleColorings$Braid" "strands" "I" ∈ wsX1_allows := by decide +kernel
def wp_X1_allows (post : Int32 → Prop) (f_strands : Int32) (x1 : Int32) : Prop := ((x1 = 0 → (post 0)) ∧ (¬ x1 = 0 → ((x1 ≤ (-f_strands) → (post 0)) ∧ (¬ x1 ≤ (-f_strands) → ((f_strands ≤ x1 → (post 0)) ∧ (¬ f_strands ≤ x1 → (post 1)))))))
set_option maxHeartbeats 4000000 in
set_option maxRecDepth 100000 in
theorem c_X1_allows {l : Launch} (G : qn_G) (sz : Nat) (h_this h_crossings : Nat) (f_strands : Int32) (f_count : Int32) (x1 : Int32) {post : Int32 → Prop} (hw : wp_X1_allows post f_strands x1) : Met l yX1_allows wsX1_allows rm_X1_allows (qn_PC G [.ref h_this, .int x1] sz (wd_X1_allows G h_this h_crossings f_strands f_count)) (qn_QI G (fun (r : Int32) (u : Unit) => post r) (fun u : Unit => wd_X1_allows G h_this h_crossings f_strands f_count) (va_A (wd_X1_allows G h_this h_crossings f_strands f_count) sz)) 0 0 (va_A (wd_X1_allows G h_this h_crossings f_strands f_count) sz) := by
  refine Met.ofW (cc := cX1_allows) (maxL := 2) (ret := (some .boolean)) (by decide) rfl ?_
  intro p e s m args below meth c s₁ B hml hv
  obtain ⟨rfl, hsz, hP, hE, hD0⟩ := hv
  have C0 : qn_C p m c cX1_allows 2 s _ wsX1_allows RX1 meth (some .boolean) := qn_C0 B hml
  obtain ⟨hx, hb, -, hown, hts, hr, hlocks⟩ := id C0
  subst hsz
  have hD := hD0.self (sz := s.heap.size)
  generalize hAe : va_A (wd_X1_allows G h_this h_crossings f_strands f_count) s.heap.size = A at hD ⊢
  have hA : ∀ q : Nat, s.heap.size ≤ q → A q := fun q h => by rw [← hAe]; exact Or.inr h
  clear hAe
  have hS : va_S A s.heap s.heap [] := va_S.rf
  have hl := lv_entry ([.ref h_this, .int x1]) (n := 2) (Nat.le_of_ble_eq_true rfl)
  rw [lg_entry_eq]
  generalize (lg_sl ([.ref h_this, .int x1]) ++ List.replicate (2 - (lg_sl ([.ref h_this, .int x1])).length) Slot.unset).toArray = ls at hl ⊢
  have hl : lv_has ls 2 [(0, .ref h_this), (1, .int x1)] := hl
  have hP : va_P G.1 vwCl (wd_X1_allows G h_this h_crossings f_strands f_count) s.heap := hP
  refine lv_iload_n hx hb dX1_allows_0 rfl (lv_at hl 1 rfl) ?_
  refine lv_if_eq (tgt := 25) hx hb dX1_allows_1 (by decide) (fun c_1 => ?_) (fun c_1 => ?_)
  · have hw := hw.1 c_1
    refine lv_iconst (v := 0) hx hb dX1_allows_25 (by decide) ?_
    exact W.zret (v := 0) hx hb hr (by decide) (fun t ht hW => ⟨⟨0, (), rfl, hw, by rw [ht]; exact hP, hD⟩, hS.F ht⟩) hS.2.2 dX1_allows_26
  · have hw := hw.2 c_1
    refine lv_iload_n hx hb dX1_allows_4 rfl (lv_at hl 1 rfl) ?_
    refine lv_aload_n hx hb dX1_allows_5 rfl (lv_at hl 0 rfl) ?_
    refine va_get (D := G.1) (ci := 1) (v := .int f_strands) (C := RX1) (T := TX1) (N := 3) hx hb hts in_X1_allows_X1 hown hE.1 hP 0 rfl rfl 0 (by decide) (hts (.fieldLink RX1 9 "QuandleColorings$Braid" "strands" "I") lk_X1_allows_9) (fun _ h9 => h9) rfl dX1_allows_6 ?_
    refine lv_ineg hx hb dX1_allows_9 ?_
    refine lv_icmp_le (tgt := 25) hx hb dX1_allows_10 (by decide) (fun c_2 => ?_) (fun c_2 => ?_)
    · have hw := hw.1 c_2
      refine lv_iconst (v := 0) hx hb dX1_allows_25 (by decide) ?_
      exact W.zret (v := 0) hx hb hr (by decide) (fun t ht hW => ⟨⟨0, (), rfl, hw, by rw [ht]; exact hP, hD⟩, hS.F ht⟩) hS.2.2 dX1_allows_26
    · have hw := hw.2 c_2
      refine lv_iload_n hx hb dX1_allows_13 rfl (lv_at hl 1 rfl) ?_
      refine lv_aload_n hx hb dX1_allows_14 rfl (lv_at hl 0 rfl) ?_
      refine va_get (D := G.1) (ci := 1) (v := .int f_strands) (C := RX1) (T := TX1) (N := 3) hx hb hts in_X1_allows_X1 hown hE.1 hP 0 rfl rfl 0 (by decide) (hts (.fieldLink RX1 9 "QuandleColorings$Braid" "strands" "I") lk_X1_allows_9) (fun _ h9 => h9) rfl dX1_allows_15 ?_
      refine lv_icmp_ge (tgt := 25) hx hb dX1_allows_18 (by decide) (fun c_3 => ?_) (fun c_3 => ?_)
      · have hw := hw.1 c_3
        refine lv_iconst (v := 0) hx hb dX1_allows_25 (by decide) ?_
        exact W.zret (v := 0) hx hb hr (by decide) (fun t ht hW => ⟨⟨0, (), rfl, hw, by rw [ht]; exact hP, hD⟩, hS.F ht⟩) hS.2.2 dX1_allows_26
      · have hw := hw.2 c_3
        refine lv_iconst (v := 1) hx hb dX1_allows_21 (by decide) ?_
        refine lv_goto (tgt := 26) hx hb dX1_allows_22 (by decide) ?_
        exact W.zret (v := 1) hx hb hr (by decide) (fun t ht hW => ⟨⟨1, (), rfl, hw, by rw [ht]; exact hP, hD⟩, hS.F ht⟩) hS.2.2 dX1_allows_26
-- QuandleColorings$Braid.at(I)I
abbrev rm_X1_at : Room := { frames := 0, cells := 0, slots := 0, locals := 0 }
abbrev wd_X1_at (G : qn_G) (h_this h_crossings : Nat) (f_strands : Int32) (f_count : Int32) (a_crossings : Nat → Int32) : va_W := [(h_this, .inr (1, [.int f_strands, .int f_count, .ref h_crossings])), (h_crossings, .inl (G.2.1, 12, .inl a_crossings))]
theorem in_X1_at_X1 : ∀ w ∈ u_ws RX1 TX1 3, w ∈ wsX1_at := by decide +kernel
theorem lk_X1_at_15 : Cond.fieldLink RX1 15 "QuandleColorings$Braid" "count" "I" ∈ wsX1_at := by decide +kernel
theorem lk_X1_at_18 : Cond.fieldLink RX1 18 "QuandleColorings$Braid" "crossings" "[I" ∈ wsX1_at := by decide +kernel
def wp_X1_at (post : Int32 → Prop) (f_count : Int32) (a_crossings : Nat → Int32) (x1 : Int32) : Prop := ((x1 < 0 → (post 0)) ∧ (¬ x1 < 0 → ((f_count ≤ x1 → (post 0)) ∧ (¬ f_count ≤ x1 → ((12 ≤ x1 → (post 0)) ∧ (¬ 12 ≤ x1 → (vp_in x1 12 ∧ (post (a_crossings x1.toNatClampNeg)))))))))
set_option maxHeartbeats 4000000 in
set_option maxRecDepth 100000 in
theorem c_X1_at {l : Launch} (G : qn_G) (sz : Nat) (h_this h_crossings : Nat) (f_strands : Int32) (f_count : Int32) (a_crossings : Nat → Int32) (x1 : Int32) {post : Int32 → Prop} (hw : wp_X1_at post f_count a_crossings x1) : Met l yX1_at wsX1_at rm_X1_at (qn_PC G [.ref h_this, .int x1] sz (wd_X1_at G h_this h_crossings f_strands f_count a_crossings)) (qn_QI G (fun (r : Int32) (u : Unit) => post r) (fun u : Unit => wd_X1_at G h_this h_crossings f_strands f_count a_crossings) (va_A (wd_X1_at G h_this h_crossings f_strands f_count a_crossings) sz)) 0 0 (va_A (wd_X1_at G h_this h_crossings f_strands f_count a_crossings) sz) := by
  refine Met.ofW (cc := cX1_at) (maxL := 2) (ret := (some .int)) (by decide) rfl ?_
  intro p e s m args below meth c s₁ B hml hv
  obtain ⟨rfl, hsz, hP, hE, hD0⟩ := hv
  have C0 : qn_C p m c cX1_at 2 s _ wsX1_at RX1 meth (some .int) := qn_C0 B hml
  obtain ⟨hx, hb, -, hown, hts, hr, hlocks⟩ := id C0
  subst hsz
  have hD := hD0.self (sz := s.heap.size)
  generalize hAe : va_A (wd_X1_at G h_this h_crossings f_strands f_count a_crossings) s.heap.size = A at hD ⊢
  have hA : ∀ q : Nat, s.heap.size ≤ q → A q := fun q h => by rw [← hAe]; exact Or.inr h
  clear hAe
  have hS : va_S A s.heap s.heap [] := va_S.rf
  have hl := lv_entry ([.ref h_this, .int x1]) (n := 2) (Nat.le_of_ble_eq_true rfl)
  rw [lg_entry_eq]
  generalize (lg_sl ([.ref h_this, .int x1]) ++ List.replicate (2 - (lg_sl ([.ref h_this, .int x1])).length) Slot.unset).toArray = ls at hl ⊢
  have hl : lv_has ls 2 [(0, .ref h_this), (1, .int x1)] := hl
  have hP : va_P G.1 vwCl (wd_X1_at G h_this h_crossings f_strands f_count a_crossings) s.heap := hP
  refine lv_iload_n hx hb dX1_at_0 rfl (lv_at hl 1 rfl) ?_
  refine lv_if_lt (tgt := 27) hx hb dX1_at_1 (by decide) (fun c_1 => ?_) (fun c_1 => ?_)
  · have hw := hw.1 c_1
    refine lv_iconst (v := 0) hx hb dX1_at_27 (by decide) ?_
    exact W.iret (v := 0) hx hb hr (fun t ht hW => ⟨⟨0, (), rfl, hw, by rw [ht]; exact hP, hD⟩, hS.F ht⟩) hS.2.2 dX1_at_28
  · have hw := hw.2 c_1
    refine lv_iload_n hx hb dX1_at_4 rfl (lv_at hl 1 rfl) ?_
    refine lv_aload_n hx hb dX1_at_5 rfl (lv_at hl 0 rfl) ?_
    refine va_get (D := G.1) (ci := 1) (v := .int f_count) (C := RX1) (T := TX1) (N := 3) hx hb hts in_X1_at_X1 hown hE.1 hP 0 rfl rfl 1 (by decide) (hts (.fieldLink RX1 15 "QuandleColorings$Braid" "count" "I") lk_X1_at_15) (fun _ h9 => h9) rfl dX1_at_6 ?_
    refine lv_icmp_ge (tgt := 27) hx hb dX1_at_9 (by decide) (fun c_2 => ?_) (fun c_2 => ?_)
    · have hw := hw.1 c_2
      refine lv_iconst (v := 0) hx hb dX1_at_27 (by decide) ?_
      exact W.iret (v := 0) hx hb hr (fun t ht hW => ⟨⟨0, (), rfl, hw, by rw [ht]; exact hP, hD⟩, hS.F ht⟩) hS.2.2 dX1_at_28
    · have hw := hw.2 c_2
      refine lv_iload_n hx hb dX1_at_12 rfl (lv_at hl 1 rfl) ?_
      refine lv_bipush (v := 12) hx hb dX1_at_13 (by decide) ?_
      refine lv_icmp_ge (tgt := 27) hx hb dX1_at_15 (by decide) (fun c_3 => ?_) (fun c_3 => ?_)
      · have hw := hw.1 c_3
        refine lv_iconst (v := 0) hx hb dX1_at_27 (by decide) ?_
        exact W.iret (v := 0) hx hb hr (fun t ht hW => ⟨⟨0, (), rfl, hw, by rw [ht]; exact hP, hD⟩, hS.F ht⟩) hS.2.2 dX1_at_28
      · have hw := hw.2 c_3
        refine lv_aload_n hx hb dX1_at_18 rfl (lv_at hl 0 rfl) ?_
        refine va_get (D := G.1) (ci := 1) (v := .ref h_crossings) (C := RX1) (T := TX1) (N := 3) hx hb hts in_X1_at_X1 hown hE.1 hP 0 rfl rfl 2 (by decide) (hts (.fieldLink RX1 18 "QuandleColorings$Braid" "crossings" "[I") lk_X1_at_18) (fun _ h9 => h9) rfl dX1_at_19 ?_
        refine lv_iload_n hx hb dX1_at_22 rfl (lv_at hl 1 rfl) ?_
        have hin := hw.1
        have hw := hw.2
        refine va_iald hx hb hE.1 hP 1 0 rfl rfl hin dX1_at_23 ?_
        refine lv_goto (tgt := 28) hx hb dX1_at_24 (by decide) ?_
        exact W.iret (v := (a_crossings x1.toNatClampNeg)) hx hb hr (fun t ht hW => ⟨⟨(a_crossings x1.toNatClampNeg), (), rfl, hw, by rw [ht]; exact hP, hD⟩, hS.F ht⟩) hS.2.2 dX1_at_28
-- QuandleColorings$Braid.restart(I)V
abbrev rm_X1_restart : Room := { frames := 0, cells := 0, slots := 0, locals := 0 }
abbrev wd_X1_restart (G : qn_G) (h_this h_crossings : Nat) (f_strands : Int32) (f_count : Int32) : va_W := [(h_this, .inr (1, [.int f_strands, .int f_count, .ref h_crossings]))]
theorem in_X1_restart_X1 : ∀ w ∈ u_ws RX1 TX1 3, w ∈ wsX1_restart := by decide +kernel
theorem lk_X1_restart_15 : Cond.fieldLink RX1 15 "QuandleColorings$Braid" "count" "I" ∈ wsX1_restart := by decide +kernel
theorem lk_X1_restart_9 : Cond.fieldLink RX1 9 "QuandleColorings$Braid" "strands" "I" ∈ wsX1_restart := by decide +kernel
def wp_X1_restart (post : Int32 → Int32 → Prop) (x1 : Int32) : Prop := (post x1 0)
set_option maxHeartbeats 4000000 in
set_option maxRecDepth 100000 in
theorem c_X1_restart {l : Launch} (G : qn_G) (sz : Nat) (h_this h_crossings : Nat) (f_strands : Int32) (f_count : Int32) (x1 : Int32) {post : Int32 → Int32 → Prop} (hw : wp_X1_restart post x1) : Met l yX1_restart wsX1_restart rm_X1_restart (qn_PC G [.ref h_this, .int x1] sz (wd_X1_restart G h_this h_crossings f_strands f_count)) (qn_QV G (fun (u : Int32 × Int32) => post u.1 u.2) (fun u : Int32 × Int32 => wd_X1_restart G h_this h_crossings (u.1) (u.2)) (va_A (wd_X1_restart G h_this h_crossings f_strands f_count) sz)) 0 0 (va_A (wd_X1_restart G h_this h_crossings f_strands f_count) sz) := by
  refine Met.ofW (cc := cX1_restart) (maxL := 2) (ret := none) (by decide) rfl ?_
  intro p e s m args below meth c s₁ B hml hv
  obtain ⟨rfl, hsz, hP, hE, hD0⟩ := hv
  have C0 : qn_C p m c cX1_restart 2 s _ wsX1_restart RX1 meth none := qn_C0 B hml
  obtain ⟨hx, hb, -, hown, hts, hr, hlocks⟩ := id C0
  subst hsz
  have hD := hD0.self (sz := s.heap.size)
  generalize hAe : va_A (wd_X1_restart G h_this h_crossings f_strands f_count) s.heap.size = A at hD ⊢
  have hA : ∀ q : Nat, s.heap.size ≤ q → A q := fun q h => by rw [← hAe]; exact Or.inr h
  clear hAe
  have hS : va_S A s.heap s.heap [] := va_S.rf
  have hl := lv_entry ([.ref h_this, .int x1]) (n := 2) (Nat.le_of_ble_eq_true rfl)
  rw [lg_entry_eq]
  generalize (lg_sl ([.ref h_this, .int x1]) ++ List.replicate (2 - (lg_sl ([.ref h_this, .int x1])).length) Slot.unset).toArray = ls at hl ⊢
  have hl : lv_has ls 2 [(0, .ref h_this), (1, .int x1)] := hl
  have hP : va_P G.1 vwCl (wd_X1_restart G h_this h_crossings f_strands f_count) s.heap := hP
  refine lv_aload_n hx hb dX1_restart_0 rfl (lv_at hl 0 rfl) ?_
  refine lv_iload_n hx hb dX1_restart_1 rfl (lv_at hl 1 rfl) ?_
  refine va_put (D := G.1) (ci := 1) (v := .int x1) (ty := .int) (C := RX1) (T := TX1) (N := 3) hx hb hts in_X1_restart_X1 tyX1 tyX1_ok nmX1 hown hE.1 hP hD hS 0 rfl rfl 0 (by decide) (hts (.fieldLink RX1 9 "QuandleColorings$Braid" "strands" "I") lk_X1_restart_9) (fun _ h9 => h9) rfl (by decide +kernel) rfl rfl (Nat.le_of_ble_eq_true rfl) dX1_restart_2 (fun H locs hP hD hS => ?_)
  have hP : va_P G.1 vwCl (wd_X1_restart G h_this h_crossings x1 f_count) H := hP
  have hD : va_D A (wd_X1_restart G h_this h_crossings x1 f_count) := hD
  refine lv_aload_n hx hb dX1_restart_5 rfl (lv_at hl 0 rfl) ?_
  refine lv_iconst (v := 0) hx hb dX1_restart_6 (by decide) ?_
  refine va_put (D := G.1) (ci := 1) (v := .int 0) (ty := .int) (C := RX1) (T := TX1) (N := 3) hx hb hts in_X1_restart_X1 tyX1 tyX1_ok nmX1 hown hE.1 hP hD hS 0 rfl rfl 1 (by decide) (hts (.fieldLink RX1 15 "QuandleColorings$Braid" "count" "I") lk_X1_restart_15) (fun _ h9 => h9) rfl (by decide +kernel) rfl rfl (Nat.le_of_ble_eq_true rfl) dX1_restart_7 (fun H locs hP hD hS => ?_)
  have hP : va_P G.1 vwCl (wd_X1_restart G h_this h_crossings x1 0) H := hP
  have hD : va_D A (wd_X1_restart G h_this h_crossings x1 0) := hD
  exact W.vret hx hb hr (fun t ht hW => ⟨⟨(x1, 0), rfl, hw, by rw [ht]; exact hP, hD⟩, hS.F ht⟩) hS.2.2 dX1_restart_10
-- QuandleColorings$Braid.append(I)V
abbrev rm_X1_append : Room := { frames := 0, cells := 0, slots := 0, locals := 0 }
abbrev wd_X1_append (G : qn_G) (h_this h_crossings : Nat) (f_strands : Int32) (f_count : Int32) (a_crossings : Nat → Int32) : va_W := [(h_this, .inr (1, [.int f_strands, .int f_count, .ref h_crossings])), (h_crossings, .inl (G.2.1, 12, .inl a_crossings))]
theorem in_X1_append_X1 : ∀ w ∈ u_ws RX1 TX1 3, w ∈ wsX1_append := by decide +kernel
theorem lk_X1_append_15 : Cond.fieldLink RX1 15 "QuandleColorings$Braid" "count" "I" ∈ wsX1_append := by decide +kernel
theorem lk_X1_append_18 : Cond.fieldLink RX1 18 "QuandleColorings$Braid" "crossings" "[I" ∈ wsX1_append := by decide +kernel
def wp_X1_append (post : Int32 → (Nat → Int32) → Prop) (f_count : Int32) (a_crossings : Nat → Int32) (x1 : Int32) : Prop := ((f_count < 0 → (post f_count a_crossings)) ∧ (¬ f_count < 0 → ((12 ≤ f_count → (post f_count a_crossings)) ∧ (¬ 12 ≤ f_count → (vp_in f_count 12 ∧ (∀ a_crossings_3 : Nat → Int32, a_crossings_3 = upd a_crossings f_count.toNatClampNeg x1 → (∀ f_count_4 : Int32, f_count_4 = f_count + 1 → (post f_count_4 a_crossings_3))))))))
set_option maxHeartbeats 4000000 in
set_option maxRecDepth 100000 in
theorem c_X1_append {l : Launch} (G : qn_G) (sz : Nat) (h_this h_crossings : Nat) (f_strands : Int32) (f_count : Int32) (a_crossings : Nat → Int32) (x1 : Int32) {post : Int32 → (Nat → Int32) → Prop} (hw : wp_X1_append post f_count a_crossings x1) : Met l yX1_append wsX1_append rm_X1_append (qn_PC G [.ref h_this, .int x1] sz (wd_X1_append G h_this h_crossings f_strands f_count a_crossings)) (qn_QV G (fun (u : Int32 × (Nat → Int32)) => post u.1 u.2) (fun u : Int32 × (Nat → Int32) => wd_X1_append G h_this h_crossings f_strands (u.1) (u.2)) (va_A (wd_X1_append G h_this h_crossings f_strands f_count a_crossings) sz)) 0 0 (va_A (wd_X1_append G h_this h_crossings f_strands f_count a_crossings) sz) := by
  refine Met.ofW (cc := cX1_append) (maxL := 2) (ret := none) (by decide) rfl ?_
  intro p e s m args below meth c s₁ B hml hv
  obtain ⟨rfl, hsz, hP, hE, hD0⟩ := hv
  have C0 : qn_C p m c cX1_append 2 s _ wsX1_append RX1 meth none := qn_C0 B hml
  obtain ⟨hx, hb, -, hown, hts, hr, hlocks⟩ := id C0
  subst hsz
  have hD := hD0.self (sz := s.heap.size)
  generalize hAe : va_A (wd_X1_append G h_this h_crossings f_strands f_count a_crossings) s.heap.size = A at hD ⊢
  have hA : ∀ q : Nat, s.heap.size ≤ q → A q := fun q h => by rw [← hAe]; exact Or.inr h
  clear hAe
  have hS : va_S A s.heap s.heap [] := va_S.rf
  have hl := lv_entry ([.ref h_this, .int x1]) (n := 2) (Nat.le_of_ble_eq_true rfl)
  rw [lg_entry_eq]
  generalize (lg_sl ([.ref h_this, .int x1]) ++ List.replicate (2 - (lg_sl ([.ref h_this, .int x1])).length) Slot.unset).toArray = ls at hl ⊢
  have hl : lv_has ls 2 [(0, .ref h_this), (1, .int x1)] := hl
  have hP : va_P G.1 vwCl (wd_X1_append G h_this h_crossings f_strands f_count a_crossings) s.heap := hP
  refine lv_aload_n hx hb dX1_append_0 rfl (lv_at hl 0 rfl) ?_
  refine va_get (D := G.1) (ci := 1) (v := .int f_count) (C := RX1) (T := TX1) (N := 3) hx hb hts in_X1_append_X1 hown hE.1 hP 0 rfl rfl 1 (by decide) (hts (.fieldLink RX1 15 "QuandleColorings$Braid" "count" "I") lk_X1_append_15) (fun _ h9 => h9) rfl dX1_append_1 ?_
  refine lv_if_lt (tgt := 36) hx hb dX1_append_4 (by decide) (fun c_1 => ?_) (fun c_1 => ?_)
  · have hw := hw.1 c_1
    exact W.vret hx hb hr (fun t ht hW => ⟨⟨(f_count, a_crossings), rfl, hw, by rw [ht]; exact hP, hD⟩, hS.F ht⟩) hS.2.2 dX1_append_36
  · have hw := hw.2 c_1
    refine lv_aload_n hx hb dX1_append_7 rfl (lv_at hl 0 rfl) ?_
    refine va_get (D := G.1) (ci := 1) (v := .int f_count) (C := RX1) (T := TX1) (N := 3) hx hb hts in_X1_append_X1 hown hE.1 hP 0 rfl rfl 1 (by decide) (hts (.fieldLink RX1 15 "QuandleColorings$Braid" "count" "I") lk_X1_append_15) (fun _ h9 => h9) rfl dX1_append_8 ?_
    refine lv_bipush (v := 12) hx hb dX1_append_11 (by decide) ?_
    refine lv_icmp_ge (tgt := 36) hx hb dX1_append_13 (by decide) (fun c_2 => ?_) (fun c_2 => ?_)
    · have hw := hw.1 c_2
      exact W.vret hx hb hr (fun t ht hW => ⟨⟨(f_count, a_crossings), rfl, hw, by rw [ht]; exact hP, hD⟩, hS.F ht⟩) hS.2.2 dX1_append_36
    · have hw := hw.2 c_2
      refine lv_aload_n hx hb dX1_append_16 rfl (lv_at hl 0 rfl) ?_
      refine va_get (D := G.1) (ci := 1) (v := .ref h_crossings) (C := RX1) (T := TX1) (N := 3) hx hb hts in_X1_append_X1 hown hE.1 hP 0 rfl rfl 2 (by decide) (hts (.fieldLink RX1 18 "QuandleColorings$Braid" "crossings" "[I") lk_X1_append_18) (fun _ h9 => h9) rfl dX1_append_17 ?_
      refine lv_aload_n hx hb dX1_append_20 rfl (lv_at hl 0 rfl) ?_
      refine va_get (D := G.1) (ci := 1) (v := .int f_count) (C := RX1) (T := TX1) (N := 3) hx hb hts in_X1_append_X1 hown hE.1 hP 0 rfl rfl 1 (by decide) (hts (.fieldLink RX1 15 "QuandleColorings$Braid" "count" "I") lk_X1_append_15) (fun _ h9 => h9) rfl dX1_append_21 ?_
      refine lv_iload_n hx hb dX1_append_24 rfl (lv_at hl 1 rfl) ?_
      have hin := hw.1
      have hw := hw.2
      obtain ⟨a_crossings_3, ea_crossings_3⟩ : ∃ y : Nat → Int32, y = upd a_crossings f_count.toNatClampNeg x1 := ⟨_, rfl⟩
      have hw := hw a_crossings_3 ea_crossings_3
      refine va_iast hx hb hE.1 hP hD hS 1 0 rfl rfl hin dX1_append_25 (fun H locs hP hD hS => ?_)
      rw [← ea_crossings_3] at hP hD
      have hP : va_P G.1 vwCl (wd_X1_append G h_this h_crossings f_strands f_count a_crossings_3) H := hP
      have hD : va_D A (wd_X1_append G h_this h_crossings f_strands f_count a_crossings_3) := hD
      refine lv_aload_n hx hb dX1_append_26 rfl (lv_at hl 0 rfl) ?_
      refine lv_dup hx hb dX1_append_27 rfl ?_
      refine va_get (D := G.1) (ci := 1) (v := .int f_count) (C := RX1) (T := TX1) (N := 3) hx hb hts in_X1_append_X1 hown hE.1 hP 0 rfl rfl 1 (by decide) (hts (.fieldLink RX1 15 "QuandleColorings$Braid" "count" "I") lk_X1_append_15) (fun _ h9 => h9) rfl dX1_append_28 ?_
      refine lv_iconst (v := 1) hx hb dX1_append_31 (by decide) ?_
      refine lv_iadd hx hb dX1_append_32 ?_
      refine lv_topi (fun f_count_4 ef_count_4 => ?_)
      have hw := hw f_count_4 ef_count_4
      refine va_put (D := G.1) (ci := 1) (v := .int f_count_4) (ty := .int) (C := RX1) (T := TX1) (N := 3) hx hb hts in_X1_append_X1 tyX1 tyX1_ok nmX1 hown hE.1 hP hD hS 0 rfl rfl 1 (by decide) (hts (.fieldLink RX1 15 "QuandleColorings$Braid" "count" "I") lk_X1_append_15) (fun _ h9 => h9) rfl (by decide +kernel) rfl rfl (Nat.le_of_ble_eq_true rfl) dX1_append_33 (fun H locs hP hD hS => ?_)
      have hP : va_P G.1 vwCl (wd_X1_append G h_this h_crossings f_strands f_count_4 a_crossings_3) H := hP
      have hD : va_D A (wd_X1_append G h_this h_crossings f_strands f_count_4 a_crossings_3) := hD
      exact W.vret hx hb hr (fun t ht hW => ⟨⟨(f_count_4, a_crossings_3), rfl, hw, by rw [ht]; exact hP, hD⟩, hS.F ht⟩) hS.2.2 dX1_append_36
-- QuandleColorings$Braid.removeLast()I
abbrev rm_X1_removeLast : Room := { frames := 1, cells := 0, slots := 0, locals := 21 }
abbrev wd_X1_removeLast (G : qn_G) (h_this h_crossings : Nat) (f_strands : Int32) (f_count : Int32) (a_crossings : Nat → Int32) : va_W := [(h_this, .inr (1, [.int f_strands, .int f_count, .ref h_crossings])), (h_crossings, .inl (G.2.1, 12, .inl a_crossings))]
theorem in_X1_removeLast_X1 : ∀ w ∈ u_ws RX1 TX1 3, w ∈ wsX1_removeLast := by decide +kernel
theorem lk_X1_removeLast_15 : Cond.fieldLink RX1 15 "QuandleColorings$Braid" "count" "I" ∈ wsX1_removeLast := by decide +kernel
def wp_X1_removeLast (post : Int32 → Int32 → Prop) (f_count : Int32) (a_crossings : Nat → Int32) : Prop := (wp_X1_at (fun (r_1 : Int32) => ((f_count ≤ 0 → (post r_1 f_count)) ∧ (¬ f_count ≤ 0 → (∀ f_count_3 : Int32, f_count_3 = f_count - 1 → (post r_1 f_count_3))))) f_count a_crossings (f_count - 1))
set_option maxHeartbeats 4000000 in
set_option maxRecDepth 100000 in
theorem c_X1_removeLast {l : Launch} (G : qn_G) (sz : Nat) (h_this h_crossings : Nat) (f_strands : Int32) (f_count : Int32) (a_crossings : Nat → Int32) {post : Int32 → Int32 → Prop} (hw : wp_X1_removeLast post f_count a_crossings) : Met l yX1_removeLast wsX1_removeLast rm_X1_removeLast (qn_PC G [.ref h_this] sz (wd_X1_removeLast G h_this h_crossings f_strands f_count a_crossings)) (qn_QI G (fun (r : Int32) (u : Int32) => post r u) (fun u : Int32 => wd_X1_removeLast G h_this h_crossings f_strands u a_crossings) (va_A (wd_X1_removeLast G h_this h_crossings f_strands f_count a_crossings) sz)) 0 0 (va_A (wd_X1_removeLast G h_this h_crossings f_strands f_count a_crossings) sz) := by
  refine Met.ofW (cc := cX1_removeLast) (maxL := 2) (ret := (some .int)) (by decide) rfl ?_
  intro p e s m args below meth c s₁ B hml hv
  obtain ⟨rfl, hsz, hP, hE, hD0⟩ := hv
  have C0 : qn_C p m c cX1_removeLast 2 s _ wsX1_removeLast RX1 meth (some .int) := qn_C0 B hml
  obtain ⟨hx, hb, -, hown, hts, hr, hlocks⟩ := id C0
  subst hsz
  have hD := hD0.self (sz := s.heap.size)
  generalize hAe : va_A (wd_X1_removeLast G h_this h_crossings f_strands f_count a_crossings) s.heap.size = A at hD ⊢
  have hA : ∀ q : Nat, s.heap.size ≤ q → A q := fun q h => by rw [← hAe]; exact Or.inr h
  clear hAe
  have hS : va_S A s.heap s.heap [] := va_S.rf
  have hl := lv_entry ([.ref h_this]) (n := 2) (Nat.le_of_ble_eq_true rfl)
  rw [lg_entry_eq]
  generalize (lg_sl ([.ref h_this]) ++ List.replicate (2 - (lg_sl ([.ref h_this])).length) Slot.unset).toArray = ls at hl ⊢
  have hl : lv_has ls 2 [(0, .ref h_this)] := hl
  have hP : va_P G.1 vwCl (wd_X1_removeLast G h_this h_crossings f_strands f_count a_crossings) s.heap := hP
  refine lv_aload_n hx hb dX1_removeLast_0 rfl (lv_at hl 0 rfl) ?_
  refine lv_aload_n hx hb dX1_removeLast_1 rfl (lv_at hl 0 rfl) ?_
  refine va_get (D := G.1) (ci := 1) (v := .int f_count) (C := RX1) (T := TX1) (N := 3) hx hb hts in_X1_removeLast_X1 hown hE.1 hP 0 rfl rfl 1 (by decide) (hts (.fieldLink RX1 15 "QuandleColorings$Braid" "count" "I") lk_X1_removeLast_15) (fun _ h9 => h9) rfl dX1_removeLast_2 ?_
  refine lv_iconst (v := 1) hx hb dX1_removeLast_5 (by decide) ?_
  refine lv_isub hx hb dX1_removeLast_6 ?_
  have hC9 : ([0, 1]).map (fun i => (wd_X1_removeLast G h_this h_crossings f_strands f_count a_crossings)[i]?) = (wd_X1_at G h_this h_crossings f_strands f_count a_crossings).map some := rfl
  refine qn_callI (wd := (fun u : Unit => wd_X1_removeLast G h_this h_crossings f_strands f_count a_crossings)) [0, 1] (va_runV (As := [.int (f_count - 1)]) (rest := []) ⟨hx, hb, hml, hown, hts⟩ (c_X1_at G _ h_this h_crossings f_strands f_count a_crossings (f_count - 1) hw) (cwV 1 hts gX1_removeLast_X1_at rfl rfl rfl (by decide +kernel) ⟨Nat.le_of_ble_eq_true rfl, Nat.le_of_ble_eq_true rfl⟩) (qn_preV hE hP hD [0, 1] hC9 (by decide +kernel) (ci := 1) rfl rfl) rfl rfl hl.1 rfl (lv_room (Nat.le_of_ble_eq_true rfl)) dX1_removeLast_7 ⟨Nat.le_of_ble_eq_true rfl, Nat.le_of_ble_eq_true rfl⟩) hP hD hS hA hC9 [some 0, some 1] (M := 2) rfl (by decide +kernel) (fun _ => rfl) (fun _ => rfl) (fun r_1 _ H locs hw hP hD hS => ?_)
  try dsimp only at hw
  have hP : va_P G.1 vwCl (wd_X1_removeLast G h_this h_crossings f_strands f_count a_crossings) H := hP
  have hD : va_D A (wd_X1_removeLast G h_this h_crossings f_strands f_count a_crossings) := hD
  refine lv_istore_n (lv' := [(1, .int r_1), (0, .ref h_this)]) hx hb dX1_removeLast_10 rfl hl (by decide) rfl (fun ls hl => ?_)
  refine lv_aload_n hx hb dX1_removeLast_11 rfl (lv_at hl 1 rfl) ?_
  refine va_get (D := G.1) (ci := 1) (v := .int f_count) (C := RX1) (T := TX1) (N := 3) hx hb hts in_X1_removeLast_X1 hown hE.1 hP 0 rfl rfl 1 (by decide) (hts (.fieldLink RX1 15 "QuandleColorings$Braid" "count" "I") lk_X1_removeLast_15) (fun _ h9 => h9) rfl dX1_removeLast_12 ?_
  refine lv_if_le (tgt := 28) hx hb dX1_removeLast_15 (by decide) (fun c_2 => ?_) (fun c_2 => ?_)
  · have hw := hw.1 c_2
    refine lv_iload_n hx hb dX1_removeLast_28 rfl (lv_at hl 0 rfl) ?_
    exact W.iret (v := r_1) hx hb hr (fun t ht hW => ⟨⟨r_1, f_count, rfl, hw, by rw [ht]; exact hP, hD⟩, hS.F ht⟩) hS.2.2 dX1_removeLast_29
  · have hw := hw.2 c_2
    refine lv_aload_n hx hb dX1_removeLast_18 rfl (lv_at hl 1 rfl) ?_
    refine lv_dup hx hb dX1_removeLast_19 rfl ?_
    refine va_get (D := G.1) (ci := 1) (v := .int f_count) (C := RX1) (T := TX1) (N := 3) hx hb hts in_X1_removeLast_X1 hown hE.1 hP 0 rfl rfl 1 (by decide) (hts (.fieldLink RX1 15 "QuandleColorings$Braid" "count" "I") lk_X1_removeLast_15) (fun _ h9 => h9) rfl dX1_removeLast_20 ?_
    refine lv_iconst (v := 1) hx hb dX1_removeLast_23 (by decide) ?_
    refine lv_isub hx hb dX1_removeLast_24 ?_
    refine lv_topi (fun f_count_3 ef_count_3 => ?_)
    have hw := hw f_count_3 ef_count_3
    refine va_put (D := G.1) (ci := 1) (v := .int f_count_3) (ty := .int) (C := RX1) (T := TX1) (N := 3) hx hb hts in_X1_removeLast_X1 tyX1 tyX1_ok nmX1 hown hE.1 hP hD hS 0 rfl rfl 1 (by decide) (hts (.fieldLink RX1 15 "QuandleColorings$Braid" "count" "I") lk_X1_removeLast_15) (fun _ h9 => h9) rfl (by decide +kernel) rfl rfl (Nat.le_of_ble_eq_true rfl) dX1_removeLast_25 (fun H locs hP hD hS => ?_)
    have hP : va_P G.1 vwCl (wd_X1_removeLast G h_this h_crossings f_strands f_count_3 a_crossings) H := hP
    have hD : va_D A (wd_X1_removeLast G h_this h_crossings f_strands f_count_3 a_crossings) := hD
    refine lv_iload_n hx hb dX1_removeLast_28 rfl (lv_at hl 0 rfl) ?_
    exact W.iret (v := r_1) hx hb hr (fun t ht hW => ⟨⟨r_1, f_count_3, rfl, hw, by rw [ht]; exact hP, hD⟩, hS.F ht⟩) hS.2.2 dX1_removeLast_29
-- QuandleColorings$Braid.copyFrom(LQuandleColorings$Braid;)V
abbrev rm_X1_copyFrom : Room := { frames := 0, cells := 0, slots := 0, locals := 0 }
abbrev wd_X1_copyFrom (G : qn_G) (h_this h_crossings h_o1 h_o1_crossings : Nat) (f_strands : Int32) (f_count : Int32) (a_crossings : Nat → Int32) (f_o1_strands : Int32) (f_o1_count : Int32) (a_o1_crossings : Nat → Int32) : va_W := [(h_this, .inr (1, [.int f_strands, .int f_count, .ref h_crossings])), (h_crossings, .inl (G.2.1, 12, .inl a_crossings)), (h_o1, .inr (1, [.int f_o1_strands, .int f_o1_count, .ref h_o1_crossings])), (h_o1_crossings, .inl (G.2.1, 12, .inl a_o1_crossings))]
theorem in_X1_copyFrom_X1 : ∀ w ∈ u_ws RX1 TX1 3, w ∈ wsX1_copyFrom := by decide +kernel
theorem lk_X1_copyFrom_15 : Cond.fieldLink RX1 15 "QuandleColorings$Braid" "count" "I" ∈ wsX1_copyFrom := by decide +kernel
theorem lk_X1_copyFrom_18 : Cond.fieldLink RX1 18 "QuandleColorings$Braid" "crossings" "[I" ∈ wsX1_copyFrom := by decide +kernel
theorem lk_X1_copyFrom_9 : Cond.fieldLink RX1 9 "QuandleColorings$Braid" "strands" "I" ∈ wsX1_copyFrom := by decide +kernel
def wp_X1_copyFrom_L18 (KL18 : (Nat → Int32) → Prop) (a_o1_crossings : Nat → Int32) : Nat → Int32 → (Nat → Int32) → Prop
  | 0 => fun _ _ => False
  | fu + 1 => fun x2 a_crossings => ((12 ≤ x2 → (KL18 a_crossings)) ∧ (¬ 12 ≤ x2 → (vp_in x2 12 ∧ (vp_in x2 12 ∧ (∀ a_crossings_2 : Nat → Int32, a_crossings_2 = upd a_crossings x2.toNatClampNeg (a_o1_crossings x2.toNatClampNeg) → (∀ x2_3 : Int32, x2_3 = x2 + 1 → ((wp_X1_copyFrom_L18 KL18 a_o1_crossings fu) x2_3 a_crossings_2)))))))
def wp_X1_copyFrom (post : Int32 → Int32 → (Nat → Int32) → Prop) (a_crossings : Nat → Int32) (f_o1_strands : Int32) (f_o1_count : Int32) (a_o1_crossings : Nat → Int32) : Prop := (∃ fu_5 : Nat, wp_X1_copyFrom_L18 (fun (a_crossings_4 : Nat → Int32) => (post f_o1_strands f_o1_count a_crossings_4)) a_o1_crossings fu_5 0 a_crossings)
set_option maxHeartbeats 4000000 in
set_option maxRecDepth 100000 in
theorem l_X1_copyFrom_18 {p : Program} {l : Launch} {e : Env} {s : State} {m : MethodId} {args : Array Value} {below : List Frame} {meth : Method} {c : Code} {G : qn_G} {A : Nat → Prop} {h_this h_crossings h_o1 h_o1_crossings : Nat} {f_strands : Int32} {f_count : Int32} {f_o1_strands : Int32} {f_o1_count : Int32} {a_o1_crossings : Nat → Int32} {post : Int32 → Int32 → (Nat → Int32) → Prop} {KL18 : (Nat → Int32) → Prop} (C0 : qn_C p m c cX1_copyFrom 3 s args wsX1_copyFrom RX1 meth none) (hE : qn_EV G s) (hA : ∀ q, s.heap.size ≤ q → A q) (hKc : ∀ (a_crossings : Nat → Int32), KL18 a_crossings → ∀ (H : Heap) (locs : List Loc) (ls : Array Slot), va_P G.1 vwCl (wd_X1_copyFrom G h_this h_crossings h_o1 h_o1_crossings f_strands f_count a_crossings f_o1_strands f_o1_count a_o1_crossings) H → va_D A (wd_X1_copyFrom G h_this h_crossings h_o1 h_o1_crossings f_strands f_count a_crossings f_o1_strands f_o1_count a_o1_crossings) → va_S A s.heap H locs → lv_has ls 3 [] → W p l e (headSpec wsX1_copyFrom rm_X1_copyFrom).room s m args below meth c H locs 0 0 (MQ below (qn_QV G (fun (u : Int32 × Int32 × (Nat → Int32)) => post u.1 u.2.1 u.2.2) (fun u : Int32 × Int32 × (Nat → Int32) => wd_X1_copyFrom G h_this h_crossings h_o1 h_o1_crossings (u.1) (u.2.1) (u.2.2) f_o1_strands f_o1_count a_o1_crossings) A) args s 0 0 A) (F0 m 42 ls [])) :
    ∀ (fu : Nat) (x2 : Int32) (a_crossings : Nat → Int32), wp_X1_copyFrom_L18 KL18 a_o1_crossings fu x2 a_crossings → ∀ (H : Heap) (locs : List Loc) (ls : Array Slot), va_P G.1 vwCl (wd_X1_copyFrom G h_this h_crossings h_o1 h_o1_crossings f_strands f_count a_crossings f_o1_strands f_o1_count a_o1_crossings) H → va_D A (wd_X1_copyFrom G h_this h_crossings h_o1 h_o1_crossings f_strands f_count a_crossings f_o1_strands f_o1_count a_o1_crossings) → va_S A s.heap H locs → lv_has ls 3 [(0, .ref h_this), (1, .ref h_o1), (2, .int x2)] → W p l e (headSpec wsX1_copyFrom rm_X1_copyFrom).room s m args below meth c H locs 0 0 (MQ below (qn_QV G (fun (u : Int32 × Int32 × (Nat → Int32)) => post u.1 u.2.1 u.2.2) (fun u : Int32 × Int32 × (Nat → Int32) => wd_X1_copyFrom G h_this h_crossings h_o1 h_o1_crossings (u.1) (u.2.1) (u.2.2) f_o1_strands f_o1_count a_o1_crossings) A) args s 0 0 A) (F0 m 18 ls []) := by
  obtain ⟨hx, hb, hml, hown, hts, hr, hlocks⟩ := id C0
  intro fu
  induction fu with
  | zero => intro x2 a_crossings hw; exact hw.elim
  | succ fu ih =>
    intro x2 a_crossings hw H locs ls hP hD hS hl
    refine lv_iload_n hx hb dX1_copyFrom_18 rfl (lv_at hl 2 rfl) ?_
    refine lv_bipush (v := 12) hx hb dX1_copyFrom_19 (by decide) ?_
    refine lv_icmp_ge (tgt := 42) hx hb dX1_copyFrom_21 (by decide) (fun c_1 => ?_) (fun c_1 => ?_)
    · have hw := hw.1 c_1
      exact hKc a_crossings hw _ _ _ hP hD hS (lv_sub hl [] rfl)
    · have hw := hw.2 c_1
      refine lv_aload_n hx hb dX1_copyFrom_24 rfl (lv_at hl 0 rfl) ?_
      refine va_get (D := G.1) (ci := 1) (v := .ref h_crossings) (C := RX1) (T := TX1) (N := 3) hx hb hts in_X1_copyFrom_X1 hown hE.1 hP 0 rfl rfl 2 (by decide) (hts (.fieldLink RX1 18 "QuandleColorings$Braid" "crossings" "[I") lk_X1_copyFrom_18) (fun _ h9 => h9) rfl dX1_copyFrom_25 ?_
      refine lv_iload_n hx hb dX1_copyFrom_28 rfl (lv_at hl 2 rfl) ?_
      refine lv_aload_n hx hb dX1_copyFrom_29 rfl (lv_at hl 1 rfl) ?_
      refine va_get (D := G.1) (ci := 1) (v := .ref h_o1_crossings) (C := RX1) (T := TX1) (N := 3) hx hb hts in_X1_copyFrom_X1 hown hE.1 hP 2 rfl rfl 2 (by decide) (hts (.fieldLink RX1 18 "QuandleColorings$Braid" "crossings" "[I") lk_X1_copyFrom_18) (fun _ h9 => h9) rfl dX1_copyFrom_30 ?_
      refine lv_iload_n hx hb dX1_copyFrom_33 rfl (lv_at hl 2 rfl) ?_
      have hin := hw.1
      have hw := hw.2
      refine va_iald hx hb hE.1 hP 3 0 rfl rfl hin dX1_copyFrom_34 ?_
      have hin := hw.1
      have hw := hw.2
      obtain ⟨a_crossings_2, ea_crossings_2⟩ : ∃ y : Nat → Int32, y = upd a_crossings x2.toNatClampNeg (a_o1_crossings x2.toNatClampNeg) := ⟨_, rfl⟩
      have hw := hw a_crossings_2 ea_crossings_2
      refine va_iast hx hb hE.1 hP hD hS 1 0 rfl rfl hin dX1_copyFrom_35 (fun H locs hP hD hS => ?_)
      rw [← ea_crossings_2] at hP hD
      have hP : va_P G.1 vwCl (wd_X1_copyFrom G h_this h_crossings h_o1 h_o1_crossings f_strands f_count a_crossings_2 f_o1_strands f_o1_count a_o1_crossings) H := hP
      have hD : va_D A (wd_X1_copyFrom G h_this h_crossings h_o1 h_o1_crossings f_strands f_count a_crossings_2 f_o1_strands f_o1_count a_o1_crossings) := hD
      obtain ⟨x2_3, ex2_3⟩ : ∃ y : Int32, y = x2 + 1 := ⟨_, rfl⟩
      have hw := hw x2_3 ex2_3
      refine lv_iinc (v := x2_3) (lv' := [(2, .int x2_3), (0, .ref h_this), (1, .ref h_o1)]) hx hb dX1_copyFrom_36 hl (k := 2) rfl (by rw [ex2_3]; rfl) (by decide) rfl (fun ls hl => ?_)
      refine lv_goto (tgt := 18) hx hb dX1_copyFrom_39 (by decide) ?_
      exact ih x2_3 a_crossings_2 hw _ _ _ hP hD hS (lv_sub hl [1, 2, 0] rfl)
set_option maxHeartbeats 4000000 in
set_option maxRecDepth 100000 in
theorem c_X1_copyFrom {l : Launch} (G : qn_G) (sz : Nat) (h_this h_crossings h_o1 h_o1_crossings : Nat) (f_strands : Int32) (f_count : Int32) (a_crossings : Nat → Int32) (f_o1_strands : Int32) (f_o1_count : Int32) (a_o1_crossings : Nat → Int32) {post : Int32 → Int32 → (Nat → Int32) → Prop} (hw : wp_X1_copyFrom post a_crossings f_o1_strands f_o1_count a_o1_crossings) : Met l yX1_copyFrom wsX1_copyFrom rm_X1_copyFrom (qn_PC G [.ref h_this, .ref h_o1] sz (wd_X1_copyFrom G h_this h_crossings h_o1 h_o1_crossings f_strands f_count a_crossings f_o1_strands f_o1_count a_o1_crossings)) (qn_QV G (fun (u : Int32 × Int32 × (Nat → Int32)) => post u.1 u.2.1 u.2.2) (fun u : Int32 × Int32 × (Nat → Int32) => wd_X1_copyFrom G h_this h_crossings h_o1 h_o1_crossings (u.1) (u.2.1) (u.2.2) f_o1_strands f_o1_count a_o1_crossings) (va_A (wd_X1_copyFrom G h_this h_crossings h_o1 h_o1_crossings f_strands f_count a_crossings f_o1_strands f_o1_count a_o1_crossings) sz)) 0 0 (va_A (wd_X1_copyFrom G h_this h_crossings h_o1 h_o1_crossings f_strands f_count a_crossings f_o1_strands f_o1_count a_o1_crossings) sz) := by
  refine Met.ofW (cc := cX1_copyFrom) (maxL := 3) (ret := none) (by decide) rfl ?_
  intro p e s m args below meth c s₁ B hml hv
  obtain ⟨rfl, hsz, hP, hE, hD0⟩ := hv
  have C0 : qn_C p m c cX1_copyFrom 3 s _ wsX1_copyFrom RX1 meth none := qn_C0 B hml
  obtain ⟨hx, hb, -, hown, hts, hr, hlocks⟩ := id C0
  subst hsz
  have hD := hD0.self (sz := s.heap.size)
  generalize hAe : va_A (wd_X1_copyFrom G h_this h_crossings h_o1 h_o1_crossings f_strands f_count a_crossings f_o1_strands f_o1_count a_o1_crossings) s.heap.size = A at hD ⊢
  have hA : ∀ q : Nat, s.heap.size ≤ q → A q := fun q h => by rw [← hAe]; exact Or.inr h
  clear hAe
  have hS : va_S A s.heap s.heap [] := va_S.rf
  have hl := lv_entry ([.ref h_this, .ref h_o1]) (n := 3) (Nat.le_of_ble_eq_true rfl)
  rw [lg_entry_eq]
  generalize (lg_sl ([.ref h_this, .ref h_o1]) ++ List.replicate (3 - (lg_sl ([.ref h_this, .ref h_o1])).length) Slot.unset).toArray = ls at hl ⊢
  have hl : lv_has ls 3 [(0, .ref h_this), (1, .ref h_o1)] := hl
  have hP : va_P G.1 vwCl (wd_X1_copyFrom G h_this h_crossings h_o1 h_o1_crossings f_strands f_count a_crossings f_o1_strands f_o1_count a_o1_crossings) s.heap := hP
  refine lv_aload_n hx hb dX1_copyFrom_0 rfl (lv_at hl 0 rfl) ?_
  refine lv_aload_n hx hb dX1_copyFrom_1 rfl (lv_at hl 1 rfl) ?_
  refine va_get (D := G.1) (ci := 1) (v := .int f_o1_strands) (C := RX1) (T := TX1) (N := 3) hx hb hts in_X1_copyFrom_X1 hown hE.1 hP 2 rfl rfl 0 (by decide) (hts (.fieldLink RX1 9 "QuandleColorings$Braid" "strands" "I") lk_X1_copyFrom_9) (fun _ h9 => h9) rfl dX1_copyFrom_2 ?_
  refine va_put (D := G.1) (ci := 1) (v := .int f_o1_strands) (ty := .int) (C := RX1) (T := TX1) (N := 3) hx hb hts in_X1_copyFrom_X1 tyX1 tyX1_ok nmX1 hown hE.1 hP hD hS 0 rfl rfl 0 (by decide) (hts (.fieldLink RX1 9 "QuandleColorings$Braid" "strands" "I") lk_X1_copyFrom_9) (fun _ h9 => h9) rfl (by decide +kernel) rfl rfl (Nat.le_of_ble_eq_true rfl) dX1_copyFrom_5 (fun H locs hP hD hS => ?_)
  have hP : va_P G.1 vwCl (wd_X1_copyFrom G h_this h_crossings h_o1 h_o1_crossings f_o1_strands f_count a_crossings f_o1_strands f_o1_count a_o1_crossings) H := hP
  have hD : va_D A (wd_X1_copyFrom G h_this h_crossings h_o1 h_o1_crossings f_o1_strands f_count a_crossings f_o1_strands f_o1_count a_o1_crossings) := hD
  refine lv_aload_n hx hb dX1_copyFrom_8 rfl (lv_at hl 0 rfl) ?_
  refine lv_aload_n hx hb dX1_copyFrom_9 rfl (lv_at hl 1 rfl) ?_
  refine va_get (D := G.1) (ci := 1) (v := .int f_o1_count) (C := RX1) (T := TX1) (N := 3) hx hb hts in_X1_copyFrom_X1 hown hE.1 hP 2 rfl rfl 1 (by decide) (hts (.fieldLink RX1 15 "QuandleColorings$Braid" "count" "I") lk_X1_copyFrom_15) (fun _ h9 => h9) rfl dX1_copyFrom_10 ?_
  refine va_put (D := G.1) (ci := 1) (v := .int f_o1_count) (ty := .int) (C := RX1) (T := TX1) (N := 3) hx hb hts in_X1_copyFrom_X1 tyX1 tyX1_ok nmX1 hown hE.1 hP hD hS 0 rfl rfl 1 (by decide) (hts (.fieldLink RX1 15 "QuandleColorings$Braid" "count" "I") lk_X1_copyFrom_15) (fun _ h9 => h9) rfl (by decide +kernel) rfl rfl (Nat.le_of_ble_eq_true rfl) dX1_copyFrom_13 (fun H locs hP hD hS => ?_)
  have hP : va_P G.1 vwCl (wd_X1_copyFrom G h_this h_crossings h_o1 h_o1_crossings f_o1_strands f_o1_count a_crossings f_o1_strands f_o1_count a_o1_crossings) H := hP
  have hD : va_D A (wd_X1_copyFrom G h_this h_crossings h_o1 h_o1_crossings f_o1_strands f_o1_count a_crossings f_o1_strands f_o1_count a_o1_crossings) := hD
  refine lv_iconst (v := 0) hx hb dX1_copyFrom_16 (by decide) ?_
  refine lv_istore_n (lv' := [(2, .int 0), (0, .ref h_this), (1, .ref h_o1)]) hx hb dX1_copyFrom_17 rfl hl (by decide) rfl (fun ls hl => ?_)
  obtain ⟨fu_5, hw⟩ := hw
  refine l_X1_copyFrom_18 (post := post) C0 hE hA (fun a_crossings_4 hw H locs ls hP hD hS hl => ?_) fu_5 0 a_crossings hw _ _ _ hP hD hS (lv_sub hl [1, 2, 0] rfl)
  exact W.vret hx hb hr (fun t ht hW => ⟨⟨(f_o1_strands, f_o1_count, a_crossings_4), rfl, hw, by rw [ht]; exact hP, hD⟩, hS.F ht⟩) hS.2.2 dX1_copyFrom_42
-- QuandleColorings$Operation.copyFrom(LQuandleColorings$Operation;)V
abbrev rm_X5_copyFrom : Room := { frames := 1, cells := 0, slots := 0, locals := 22 }
abbrev wd_X5_copyFrom (G : qn_G) (h_this h_products h_quotients h_products_cells h_quotients_cells h_o1 h_o1_products h_o1_quotients h_o1_products_cells h_o1_quotients_cells : Nat) (f_size : Int32) (f_badColumn : Int32) (a_products_cells : Nat → Int32) (a_quotients_cells : Nat → Int32) (f_o1_size : Int32) (f_o1_badColumn : Int32) (a_o1_products_cells : Nat → Int32) (a_o1_quotients_cells : Nat → Int32) : va_W := [(h_this, .inr (5, [.int f_size, .ref h_products, .ref h_quotients, .int f_badColumn])), (h_products, .inr (2, [.ref h_products_cells])), (h_products_cells, .inl (G.2.1, 36, .inl a_products_cells)), (h_quotients, .inr (2, [.ref h_quotients_cells])), (h_quotients_cells, .inl (G.2.1, 36, .inl a_quotients_cells)), (h_o1, .inr (5, [.int f_o1_size, .ref h_o1_products, .ref h_o1_quotients, .int f_o1_badColumn])), (h_o1_products, .inr (2, [.ref h_o1_products_cells])), (h_o1_products_cells, .inl (G.2.1, 36, .inl a_o1_products_cells)), (h_o1_quotients, .inr (2, [.ref h_o1_quotients_cells])), (h_o1_quotients_cells, .inl (G.2.1, 36, .inl a_o1_quotients_cells))]
theorem in_X5_copyFrom_X5 : ∀ w ∈ u_ws RX5 TX5 4, w ∈ wsX5_copyFrom := by decide +kernel
theorem lk_X5_copyFrom_18 : Cond.fieldLink RX5 18 "QuandleColorings$Operation" "products" "LQuandleColorings$Grid;" ∈ wsX5_copyFrom := by decide +kernel
theorem lk_X5_copyFrom_22 : Cond.fieldLink RX5 22 "QuandleColorings$Operation" "quotients" "LQuandleColorings$Grid;" ∈ wsX5_copyFrom := by decide +kernel
theorem lk_X5_copyFrom_25 : Cond.fieldLink RX5 25 "QuandleColorings$Operation" "badColumn" "I" ∈ wsX5_copyFrom := by decide +kernel
theorem lk_X5_copyFrom_9 : Cond.fieldLink RX5 9 "QuandleColorings$Operation" "size" "I" ∈ wsX5_copyFrom := by decide +kernel
def wp_X5_copyFrom (post : Int32 → Int32 → (Nat → Int32) → (Nat → Int32) → Prop) (a_products_cells : Nat → Int32) (a_quotients_cells : Nat → Int32) (f_o1_size : Int32) (f_o1_badColumn : Int32) (a_o1_products_cells : Nat → Int32) (a_o1_quotients_cells : Nat → Int32) : Prop := (wp_X2_copyFrom (fun (a_products_cells_1 : Nat → Int32) => (wp_X2_copyFrom (fun (a_quotients_cells_2 : Nat → Int32) => (post f_o1_size f_o1_badColumn a_products_cells_1 a_quotients_cells_2)) a_quotients_cells a_o1_quotients_cells)) a_products_cells a_o1_products_cells)
set_option maxHeartbeats 4000000 in
set_option maxRecDepth 100000 in
theorem c_X5_copyFrom {l : Launch} (G : qn_G) (sz : Nat) (h_this h_products h_quotients h_products_cells h_quotients_cells h_o1 h_o1_products h_o1_quotients h_o1_products_cells h_o1_quotients_cells : Nat) (f_size : Int32) (f_badColumn : Int32) (a_products_cells : Nat → Int32) (a_quotients_cells : Nat → Int32) (f_o1_size : Int32) (f_o1_badColumn : Int32) (a_o1_products_cells : Nat → Int32) (a_o1_quotients_cells : Nat → Int32) {post : Int32 → Int32 → (Nat → Int32) → (Nat → Int32) → Prop} (hw : wp_X5_copyFrom post a_products_cells a_quotients_cells f_o1_size f_o1_badColumn a_o1_products_cells a_o1_quotients_cells) : Met l yX5_copyFrom wsX5_copyFrom rm_X5_copyFrom (qn_PC G [.ref h_this, .ref h_o1] sz (wd_X5_copyFrom G h_this h_products h_quotients h_products_cells h_quotients_cells h_o1 h_o1_products h_o1_quotients h_o1_products_cells h_o1_quotients_cells f_size f_badColumn a_products_cells a_quotients_cells f_o1_size f_o1_badColumn a_o1_products_cells a_o1_quotients_cells)) (qn_QV G (fun (u : Int32 × Int32 × (Nat → Int32) × (Nat → Int32)) => post u.1 u.2.1 u.2.2.1 u.2.2.2) (fun u : Int32 × Int32 × (Nat → Int32) × (Nat → Int32) => wd_X5_copyFrom G h_this h_products h_quotients h_products_cells h_quotients_cells h_o1 h_o1_products h_o1_quotients h_o1_products_cells h_o1_quotients_cells (u.1) (u.2.1) (u.2.2.1) (u.2.2.2) f_o1_size f_o1_badColumn a_o1_products_cells a_o1_quotients_cells) (va_A (wd_X5_copyFrom G h_this h_products h_quotients h_products_cells h_quotients_cells h_o1 h_o1_products h_o1_quotients h_o1_products_cells h_o1_quotients_cells f_size f_badColumn a_products_cells a_quotients_cells f_o1_size f_o1_badColumn a_o1_products_cells a_o1_quotients_cells) sz)) 0 0 (va_A (wd_X5_copyFrom G h_this h_products h_quotients h_products_cells h_quotients_cells h_o1 h_o1_products h_o1_quotients h_o1_products_cells h_o1_quotients_cells f_size f_badColumn a_products_cells a_quotients_cells f_o1_size f_o1_badColumn a_o1_products_cells a_o1_quotients_cells) sz) := by
  refine Met.ofW (cc := cX5_copyFrom) (maxL := 2) (ret := none) (by decide) rfl ?_
  intro p e s m args below meth c s₁ B hml hv
  obtain ⟨rfl, hsz, hP, hE, hD0⟩ := hv
  have C0 : qn_C p m c cX5_copyFrom 2 s _ wsX5_copyFrom RX5 meth none := qn_C0 B hml
  obtain ⟨hx, hb, -, hown, hts, hr, hlocks⟩ := id C0
  subst hsz
  have hD := hD0.self (sz := s.heap.size)
  generalize hAe : va_A (wd_X5_copyFrom G h_this h_products h_quotients h_products_cells h_quotients_cells h_o1 h_o1_products h_o1_quotients h_o1_products_cells h_o1_quotients_cells f_size f_badColumn a_products_cells a_quotients_cells f_o1_size f_o1_badColumn a_o1_products_cells a_o1_quotients_cells) s.heap.size = A at hD ⊢
  have hA : ∀ q : Nat, s.heap.size ≤ q → A q := fun q h => by rw [← hAe]; exact Or.inr h
  clear hAe
  have hS : va_S A s.heap s.heap [] := va_S.rf
  have hl := lv_entry ([.ref h_this, .ref h_o1]) (n := 2) (Nat.le_of_ble_eq_true rfl)
  rw [lg_entry_eq]
  generalize (lg_sl ([.ref h_this, .ref h_o1]) ++ List.replicate (2 - (lg_sl ([.ref h_this, .ref h_o1])).length) Slot.unset).toArray = ls at hl ⊢
  have hl : lv_has ls 2 [(0, .ref h_this), (1, .ref h_o1)] := hl
  have hP : va_P G.1 vwCl (wd_X5_copyFrom G h_this h_products h_quotients h_products_cells h_quotients_cells h_o1 h_o1_products h_o1_quotients h_o1_products_cells h_o1_quotients_cells f_size f_badColumn a_products_cells a_quotients_cells f_o1_size f_o1_badColumn a_o1_products_cells a_o1_quotients_cells) s.heap := hP
  refine lv_aload_n hx hb dX5_copyFrom_0 rfl (lv_at hl 0 rfl) ?_
  refine lv_aload_n hx hb dX5_copyFrom_1 rfl (lv_at hl 1 rfl) ?_
  refine va_get (D := G.1) (ci := 5) (v := .int f_o1_size) (C := RX5) (T := TX5) (N := 4) hx hb hts in_X5_copyFrom_X5 hown hE.1 hP 5 rfl rfl 0 (by decide) (hts (.fieldLink RX5 9 "QuandleColorings$Operation" "size" "I") lk_X5_copyFrom_9) (fun _ h9 => h9) rfl dX5_copyFrom_2 ?_
  refine va_put (D := G.1) (ci := 5) (v := .int f_o1_size) (ty := .int) (C := RX5) (T := TX5) (N := 4) hx hb hts in_X5_copyFrom_X5 tyX5 tyX5_ok nmX5 hown hE.1 hP hD hS 0 rfl rfl 0 (by decide) (hts (.fieldLink RX5 9 "QuandleColorings$Operation" "size" "I") lk_X5_copyFrom_9) (fun _ h9 => h9) rfl (by decide +kernel) rfl rfl (Nat.le_of_ble_eq_true rfl) dX5_copyFrom_5 (fun H locs hP hD hS => ?_)
  have hP : va_P G.1 vwCl (wd_X5_copyFrom G h_this h_products h_quotients h_products_cells h_quotients_cells h_o1 h_o1_products h_o1_quotients h_o1_products_cells h_o1_quotients_cells f_o1_size f_badColumn a_products_cells a_quotients_cells f_o1_size f_o1_badColumn a_o1_products_cells a_o1_quotients_cells) H := hP
  have hD : va_D A (wd_X5_copyFrom G h_this h_products h_quotients h_products_cells h_quotients_cells h_o1 h_o1_products h_o1_quotients h_o1_products_cells h_o1_quotients_cells f_o1_size f_badColumn a_products_cells a_quotients_cells f_o1_size f_o1_badColumn a_o1_products_cells a_o1_quotients_cells) := hD
  refine lv_aload_n hx hb dX5_copyFrom_8 rfl (lv_at hl 0 rfl) ?_
  refine lv_aload_n hx hb dX5_copyFrom_9 rfl (lv_at hl 1 rfl) ?_
  refine va_get (D := G.1) (ci := 5) (v := .int f_o1_badColumn) (C := RX5) (T := TX5) (N := 4) hx hb hts in_X5_copyFrom_X5 hown hE.1 hP 5 rfl rfl 3 (by decide) (hts (.fieldLink RX5 25 "QuandleColorings$Operation" "badColumn" "I") lk_X5_copyFrom_25) (fun _ h9 => h9) rfl dX5_copyFrom_10 ?_
  refine va_put (D := G.1) (ci := 5) (v := .int f_o1_badColumn) (ty := .int) (C := RX5) (T := TX5) (N := 4) hx hb hts in_X5_copyFrom_X5 tyX5 tyX5_ok nmX5 hown hE.1 hP hD hS 0 rfl rfl 3 (by decide) (hts (.fieldLink RX5 25 "QuandleColorings$Operation" "badColumn" "I") lk_X5_copyFrom_25) (fun _ h9 => h9) rfl (by decide +kernel) rfl rfl (Nat.le_of_ble_eq_true rfl) dX5_copyFrom_13 (fun H locs hP hD hS => ?_)
  have hP : va_P G.1 vwCl (wd_X5_copyFrom G h_this h_products h_quotients h_products_cells h_quotients_cells h_o1 h_o1_products h_o1_quotients h_o1_products_cells h_o1_quotients_cells f_o1_size f_o1_badColumn a_products_cells a_quotients_cells f_o1_size f_o1_badColumn a_o1_products_cells a_o1_quotients_cells) H := hP
  have hD : va_D A (wd_X5_copyFrom G h_this h_products h_quotients h_products_cells h_quotients_cells h_o1 h_o1_products h_o1_quotients h_o1_products_cells h_o1_quotients_cells f_o1_size f_o1_badColumn a_products_cells a_quotients_cells f_o1_size f_o1_badColumn a_o1_products_cells a_o1_quotients_cells) := hD
  refine lv_aload_n hx hb dX5_copyFrom_16 rfl (lv_at hl 0 rfl) ?_
  refine va_get (D := G.1) (ci := 5) (v := .ref h_products) (C := RX5) (T := TX5) (N := 4) hx hb hts in_X5_copyFrom_X5 hown hE.1 hP 0 rfl rfl 1 (by decide) (hts (.fieldLink RX5 18 "QuandleColorings$Operation" "products" "LQuandleColorings$Grid;") lk_X5_copyFrom_18) (fun _ h9 => h9) rfl dX5_copyFrom_17 ?_
  refine lv_aload_n hx hb dX5_copyFrom_20 rfl (lv_at hl 1 rfl) ?_
  refine va_get (D := G.1) (ci := 5) (v := .ref h_o1_products) (C := RX5) (T := TX5) (N := 4) hx hb hts in_X5_copyFrom_X5 hown hE.1 hP 5 rfl rfl 1 (by decide) (hts (.fieldLink RX5 18 "QuandleColorings$Operation" "products" "LQuandleColorings$Grid;") lk_X5_copyFrom_18) (fun _ h9 => h9) rfl dX5_copyFrom_21 ?_
  have hC9 : ([1, 2, 6, 7]).map (fun i => (wd_X5_copyFrom G h_this h_products h_quotients h_products_cells h_quotients_cells h_o1 h_o1_products h_o1_quotients h_o1_products_cells h_o1_quotients_cells f_o1_size f_o1_badColumn a_products_cells a_quotients_cells f_o1_size f_o1_badColumn a_o1_products_cells a_o1_quotients_cells)[i]?) = (wd_X2_copyFrom G h_products h_products_cells h_o1_products h_o1_products_cells a_products_cells a_o1_products_cells).map some := rfl
  refine qn_callV (wd := (fun u : (Nat → Int32) => wd_X5_copyFrom G h_this h_products h_quotients h_products_cells h_quotients_cells h_o1 h_o1_products h_o1_quotients h_o1_products_cells h_o1_quotients_cells f_o1_size f_o1_badColumn u a_quotients_cells f_o1_size f_o1_badColumn a_o1_products_cells a_o1_quotients_cells)) [1, 2, 6, 7] (va_runV (As := [.ref h_o1_products]) (rest := []) ⟨hx, hb, hml, hown, hts⟩ (c_X2_copyFrom G _ h_products h_products_cells h_o1_products h_o1_products_cells a_products_cells a_o1_products_cells hw) (cwV 1 hts gX5_copyFrom_X2_copyFrom rfl rfl rfl (by decide +kernel) ⟨Nat.le_of_ble_eq_true rfl, Nat.le_of_ble_eq_true rfl⟩) (qn_preV hE hP hD [1, 2, 6, 7] hC9 (by decide +kernel) (ci := 2) rfl rfl) rfl rfl hl.1 rfl (lv_room (Nat.le_of_ble_eq_true rfl)) dX5_copyFrom_24 ⟨Nat.le_of_ble_eq_true rfl, Nat.le_of_ble_eq_true rfl⟩) hP hD hS hA hC9 [none, some 0, some 1, none, none, none, some 2, some 3, none, none] (M := 10) rfl (by decide +kernel) (fun _ => rfl) (fun _ => rfl) (fun a_products_cells_1 H locs hw hP hD hS => ?_)
  try dsimp only at hw
  have hP : va_P G.1 vwCl (wd_X5_copyFrom G h_this h_products h_quotients h_products_cells h_quotients_cells h_o1 h_o1_products h_o1_quotients h_o1_products_cells h_o1_quotients_cells f_o1_size f_o1_badColumn a_products_cells_1 a_quotients_cells f_o1_size f_o1_badColumn a_o1_products_cells a_o1_quotients_cells) H := hP
  have hD : va_D A (wd_X5_copyFrom G h_this h_products h_quotients h_products_cells h_quotients_cells h_o1 h_o1_products h_o1_quotients h_o1_products_cells h_o1_quotients_cells f_o1_size f_o1_badColumn a_products_cells_1 a_quotients_cells f_o1_size f_o1_badColumn a_o1_products_cells a_o1_quotients_cells) := hD
  refine lv_aload_n hx hb dX5_copyFrom_27 rfl (lv_at hl 0 rfl) ?_
  refine va_get (D := G.1) (ci := 5) (v := .ref h_quotients) (C := RX5) (T := TX5) (N := 4) hx hb hts in_X5_copyFrom_X5 hown hE.1 hP 0 rfl rfl 2 (by decide) (hts (.fieldLink RX5 22 "QuandleColorings$Operation" "quotients" "LQuandleColorings$Grid;") lk_X5_copyFrom_22) (fun _ h9 => h9) rfl dX5_copyFrom_28 ?_
  refine lv_aload_n hx hb dX5_copyFrom_31 rfl (lv_at hl 1 rfl) ?_
  refine va_get (D := G.1) (ci := 5) (v := .ref h_o1_quotients) (C := RX5) (T := TX5) (N := 4) hx hb hts in_X5_copyFrom_X5 hown hE.1 hP 5 rfl rfl 2 (by decide) (hts (.fieldLink RX5 22 "QuandleColorings$Operation" "quotients" "LQuandleColorings$Grid;") lk_X5_copyFrom_22) (fun _ h9 => h9) rfl dX5_copyFrom_32 ?_
  have hC9 : ([3, 4, 8, 9]).map (fun i => (wd_X5_copyFrom G h_this h_products h_quotients h_products_cells h_quotients_cells h_o1 h_o1_products h_o1_quotients h_o1_products_cells h_o1_quotients_cells f_o1_size f_o1_badColumn a_products_cells_1 a_quotients_cells f_o1_size f_o1_badColumn a_o1_products_cells a_o1_quotients_cells)[i]?) = (wd_X2_copyFrom G h_quotients h_quotients_cells h_o1_quotients h_o1_quotients_cells a_quotients_cells a_o1_quotients_cells).map some := rfl
  refine qn_callV (wd := (fun u : (Nat → Int32) => wd_X5_copyFrom G h_this h_products h_quotients h_products_cells h_quotients_cells h_o1 h_o1_products h_o1_quotients h_o1_products_cells h_o1_quotients_cells f_o1_size f_o1_badColumn a_products_cells_1 u f_o1_size f_o1_badColumn a_o1_products_cells a_o1_quotients_cells)) [3, 4, 8, 9] (va_runV (As := [.ref h_o1_quotients]) (rest := []) ⟨hx, hb, hml, hown, hts⟩ (c_X2_copyFrom G _ h_quotients h_quotients_cells h_o1_quotients h_o1_quotients_cells a_quotients_cells a_o1_quotients_cells hw) (cwV 1 hts gX5_copyFrom_X2_copyFrom rfl rfl rfl (by decide +kernel) ⟨Nat.le_of_ble_eq_true rfl, Nat.le_of_ble_eq_true rfl⟩) (qn_preV hE hP hD [3, 4, 8, 9] hC9 (by decide +kernel) (ci := 2) rfl rfl) rfl rfl hl.1 rfl (lv_room (Nat.le_of_ble_eq_true rfl)) dX5_copyFrom_35 ⟨Nat.le_of_ble_eq_true rfl, Nat.le_of_ble_eq_true rfl⟩) hP hD hS hA hC9 [none, none, none, some 0, some 1, none, none, none, some 2, some 3] (M := 10) rfl (by decide +kernel) (fun _ => rfl) (fun _ => rfl) (fun a_quotients_cells_2 H locs hw hP hD hS => ?_)
  try dsimp only at hw
  have hP : va_P G.1 vwCl (wd_X5_copyFrom G h_this h_products h_quotients h_products_cells h_quotients_cells h_o1 h_o1_products h_o1_quotients h_o1_products_cells h_o1_quotients_cells f_o1_size f_o1_badColumn a_products_cells_1 a_quotients_cells_2 f_o1_size f_o1_badColumn a_o1_products_cells a_o1_quotients_cells) H := hP
  have hD : va_D A (wd_X5_copyFrom G h_this h_products h_quotients h_products_cells h_quotients_cells h_o1 h_o1_products h_o1_quotients h_o1_products_cells h_o1_quotients_cells f_o1_size f_o1_badColumn a_products_cells_1 a_quotients_cells_2 f_o1_size f_o1_badColumn a_o1_products_cells a_o1_quotients_cells) := hD
  exact W.vret hx hb hr (fun t ht hW => ⟨⟨(f_o1_size, f_o1_badColumn, a_products_cells_1, a_quotients_cells_2), rfl, hw, by rw [ht]; exact hP, hD⟩, hS.F ht⟩) hS.2.2 dX5_copyFrom_38
-- QuandleColorings$Weights.copyFrom(LQuandleColorings$Weights;)V
abbrev rm_X8_copyFrom : Room := { frames := 1, cells := 0, slots := 0, locals := 22 }
abbrev wd_X8_copyFrom (G : qn_G) (h_this h_values h_values_cells h_o1 h_o1_values h_o1_values_cells : Nat) (f_modulus : Int32) (a_values_cells : Nat → Int32) (f_o1_modulus : Int32) (a_o1_values_cells : Nat → Int32) : va_W := [(h_this, .inr (8, [.int f_modulus, .ref h_values])), (h_values, .inr (2, [.ref h_values_cells])), (h_values_cells, .inl (G.2.1, 36, .inl a_values_cells)), (h_o1, .inr (8, [.int f_o1_modulus, .ref h_o1_values])), (h_o1_values, .inr (2, [.ref h_o1_values_cells])), (h_o1_values_cells, .inl (G.2.1, 36, .inl a_o1_values_cells))]
theorem in_X8_copyFrom_X8 : ∀ w ∈ u_ws RX8 TX8 2, w ∈ wsX8_copyFrom := by decide +kernel
theorem lk_X8_copyFrom_18 : Cond.fieldLink RX8 18 "QuandleColorings$Weights" "values" "LQuandleColorings$Grid;" ∈ wsX8_copyFrom := by decide +kernel
theorem lk_X8_copyFrom_9 : Cond.fieldLink RX8 9 "QuandleColorings$Weights" "modulus" "I" ∈ wsX8_copyFrom := by decide +kernel
def wp_X8_copyFrom (post : Int32 → (Nat → Int32) → Prop) (a_values_cells : Nat → Int32) (f_o1_modulus : Int32) (a_o1_values_cells : Nat → Int32) : Prop := (wp_X2_copyFrom (fun (a_values_cells_1 : Nat → Int32) => (post f_o1_modulus a_values_cells_1)) a_values_cells a_o1_values_cells)
set_option maxHeartbeats 4000000 in
set_option maxRecDepth 100000 in
theorem c_X8_copyFrom {l : Launch} (G : qn_G) (sz : Nat) (h_this h_values h_values_cells h_o1 h_o1_values h_o1_values_cells : Nat) (f_modulus : Int32) (a_values_cells : Nat → Int32) (f_o1_modulus : Int32) (a_o1_values_cells : Nat → Int32) {post : Int32 → (Nat → Int32) → Prop} (hw : wp_X8_copyFrom post a_values_cells f_o1_modulus a_o1_values_cells) : Met l yX8_copyFrom wsX8_copyFrom rm_X8_copyFrom (qn_PC G [.ref h_this, .ref h_o1] sz (wd_X8_copyFrom G h_this h_values h_values_cells h_o1 h_o1_values h_o1_values_cells f_modulus a_values_cells f_o1_modulus a_o1_values_cells)) (qn_QV G (fun (u : Int32 × (Nat → Int32)) => post u.1 u.2) (fun u : Int32 × (Nat → Int32) => wd_X8_copyFrom G h_this h_values h_values_cells h_o1 h_o1_values h_o1_values_cells (u.1) (u.2) f_o1_modulus a_o1_values_cells) (va_A (wd_X8_copyFrom G h_this h_values h_values_cells h_o1 h_o1_values h_o1_values_cells f_modulus a_values_cells f_o1_modulus a_o1_values_cells) sz)) 0 0 (va_A (wd_X8_copyFrom G h_this h_values h_values_cells h_o1 h_o1_values h_o1_values_cells f_modulus a_values_cells f_o1_modulus a_o1_values_cells) sz) := by
  refine Met.ofW (cc := cX8_copyFrom) (maxL := 2) (ret := none) (by decide) rfl ?_
  intro p e s m args below meth c s₁ B hml hv
  obtain ⟨rfl, hsz, hP, hE, hD0⟩ := hv
  have C0 : qn_C p m c cX8_copyFrom 2 s _ wsX8_copyFrom RX8 meth none := qn_C0 B hml
  obtain ⟨hx, hb, -, hown, hts, hr, hlocks⟩ := id C0
  subst hsz
  have hD := hD0.self (sz := s.heap.size)
  generalize hAe : va_A (wd_X8_copyFrom G h_this h_values h_values_cells h_o1 h_o1_values h_o1_values_cells f_modulus a_values_cells f_o1_modulus a_o1_values_cells) s.heap.size = A at hD ⊢
  have hA : ∀ q : Nat, s.heap.size ≤ q → A q := fun q h => by rw [← hAe]; exact Or.inr h
  clear hAe
  have hS : va_S A s.heap s.heap [] := va_S.rf
  have hl := lv_entry ([.ref h_this, .ref h_o1]) (n := 2) (Nat.le_of_ble_eq_true rfl)
  rw [lg_entry_eq]
  generalize (lg_sl ([.ref h_this, .ref h_o1]) ++ List.replicate (2 - (lg_sl ([.ref h_this, .ref h_o1])).length) Slot.unset).toArray = ls at hl ⊢
  have hl : lv_has ls 2 [(0, .ref h_this), (1, .ref h_o1)] := hl
  have hP : va_P G.1 vwCl (wd_X8_copyFrom G h_this h_values h_values_cells h_o1 h_o1_values h_o1_values_cells f_modulus a_values_cells f_o1_modulus a_o1_values_cells) s.heap := hP
  refine lv_aload_n hx hb dX8_copyFrom_0 rfl (lv_at hl 0 rfl) ?_
  refine lv_aload_n hx hb dX8_copyFrom_1 rfl (lv_at hl 1 rfl) ?_
  refine va_get (D := G.1) (ci := 8) (v := .int f_o1_modulus) (C := RX8) (T := TX8) (N := 2) hx hb hts in_X8_copyFrom_X8 hown hE.1 hP 3 rfl rfl 0 (by decide) (hts (.fieldLink RX8 9 "QuandleColorings$Weights" "modulus" "I") lk_X8_copyFrom_9) (fun _ h9 => h9) rfl dX8_copyFrom_2 ?_
  refine va_put (D := G.1) (ci := 8) (v := .int f_o1_modulus) (ty := .int) (C := RX8) (T := TX8) (N := 2) hx hb hts in_X8_copyFrom_X8 tyX8 tyX8_ok nmX8 hown hE.1 hP hD hS 0 rfl rfl 0 (by decide) (hts (.fieldLink RX8 9 "QuandleColorings$Weights" "modulus" "I") lk_X8_copyFrom_9) (fun _ h9 => h9) rfl (by decide +kernel) rfl rfl (Nat.le_of_ble_eq_true rfl) dX8_copyFrom_5 (fun H locs hP hD hS => ?_)
  have hP : va_P G.1 vwCl (wd_X8_copyFrom G h_this h_values h_values_cells h_o1 h_o1_values h_o1_values_cells f_o1_modulus a_values_cells f_o1_modulus a_o1_values_cells) H := hP
  have hD : va_D A (wd_X8_copyFrom G h_this h_values h_values_cells h_o1 h_o1_values h_o1_values_cells f_o1_modulus a_values_cells f_o1_modulus a_o1_values_cells) := hD
  refine lv_aload_n hx hb dX8_copyFrom_8 rfl (lv_at hl 0 rfl) ?_
  refine va_get (D := G.1) (ci := 8) (v := .ref h_values) (C := RX8) (T := TX8) (N := 2) hx hb hts in_X8_copyFrom_X8 hown hE.1 hP 0 rfl rfl 1 (by decide) (hts (.fieldLink RX8 18 "QuandleColorings$Weights" "values" "LQuandleColorings$Grid;") lk_X8_copyFrom_18) (fun _ h9 => h9) rfl dX8_copyFrom_9 ?_
  refine lv_aload_n hx hb dX8_copyFrom_12 rfl (lv_at hl 1 rfl) ?_
  refine va_get (D := G.1) (ci := 8) (v := .ref h_o1_values) (C := RX8) (T := TX8) (N := 2) hx hb hts in_X8_copyFrom_X8 hown hE.1 hP 3 rfl rfl 1 (by decide) (hts (.fieldLink RX8 18 "QuandleColorings$Weights" "values" "LQuandleColorings$Grid;") lk_X8_copyFrom_18) (fun _ h9 => h9) rfl dX8_copyFrom_13 ?_
  have hC9 : ([1, 2, 4, 5]).map (fun i => (wd_X8_copyFrom G h_this h_values h_values_cells h_o1 h_o1_values h_o1_values_cells f_o1_modulus a_values_cells f_o1_modulus a_o1_values_cells)[i]?) = (wd_X2_copyFrom G h_values h_values_cells h_o1_values h_o1_values_cells a_values_cells a_o1_values_cells).map some := rfl
  refine qn_callV (wd := (fun u : (Nat → Int32) => wd_X8_copyFrom G h_this h_values h_values_cells h_o1 h_o1_values h_o1_values_cells f_o1_modulus u f_o1_modulus a_o1_values_cells)) [1, 2, 4, 5] (va_runV (As := [.ref h_o1_values]) (rest := []) ⟨hx, hb, hml, hown, hts⟩ (c_X2_copyFrom G _ h_values h_values_cells h_o1_values h_o1_values_cells a_values_cells a_o1_values_cells hw) (cwV 1 hts gX8_copyFrom_X2_copyFrom rfl rfl rfl (by decide +kernel) ⟨Nat.le_of_ble_eq_true rfl, Nat.le_of_ble_eq_true rfl⟩) (qn_preV hE hP hD [1, 2, 4, 5] hC9 (by decide +kernel) (ci := 2) rfl rfl) rfl rfl hl.1 rfl (lv_room (Nat.le_of_ble_eq_true rfl)) dX8_copyFrom_16 ⟨Nat.le_of_ble_eq_true rfl, Nat.le_of_ble_eq_true rfl⟩) hP hD hS hA hC9 [none, some 0, some 1, none, some 2, some 3] (M := 6) rfl (by decide +kernel) (fun _ => rfl) (fun _ => rfl) (fun a_values_cells_1 H locs hw hP hD hS => ?_)
  try dsimp only at hw
  have hP : va_P G.1 vwCl (wd_X8_copyFrom G h_this h_values h_values_cells h_o1 h_o1_values h_o1_values_cells f_o1_modulus a_values_cells_1 f_o1_modulus a_o1_values_cells) H := hP
  have hD : va_D A (wd_X8_copyFrom G h_this h_values h_values_cells h_o1 h_o1_values h_o1_values_cells f_o1_modulus a_values_cells_1 f_o1_modulus a_o1_values_cells) := hD
  exact W.vret hx hb hr (fun t ht hW => ⟨⟨(f_o1_modulus, a_values_cells_1), rfl, hw, by rw [ht]; exact hP, hD⟩, hS.F ht⟩) hS.2.2 dX8_copyFrom_19
-- QuandleColorings$State.copyFrom(LQuandleColorings$State;)V
abbrev rm_X6_copyFrom : Room := { frames := 2, cells := 0, slots := 0, locals := 43 }
abbrev wd_X6_copyFrom (G : qn_G) (h_this h_operation h_braid h_weights h_operation_products h_operation_quotients h_operation_products_cells h_operation_quotients_cells h_braid_crossings h_weights_values h_weights_values_cells h_o1 h_o1_operation h_o1_braid h_o1_weights h_o1_operation_products h_o1_operation_quotients h_o1_operation_products_cells h_o1_operation_quotients_cells h_o1_braid_crossings h_o1_weights_values h_o1_weights_values_cells : Nat) (f_operation_size : Int32) (f_operation_badColumn : Int32) (a_operation_products_cells : Nat → Int32) (a_operation_quotients_cells : Nat → Int32) (f_braid_strands : Int32) (f_braid_count : Int32) (a_braid_crossings : Nat → Int32) (f_weights_modulus : Int32) (a_weights_values_cells : Nat → Int32) (f_o1_operation_size : Int32) (f_o1_operation_badColumn : Int32) (a_o1_operation_products_cells : Nat → Int32) (a_o1_operation_quotients_cells : Nat → Int32) (f_o1_braid_strands : Int32) (f_o1_braid_count : Int32) (a_o1_braid_crossings : Nat → Int32) (f_o1_weights_modulus : Int32) (a_o1_weights_values_cells : Nat → Int32) : va_W := [(h_this, .inr (6, [.ref h_operation, .ref h_braid, .ref h_weights])), (h_operation, .inr (5, [.int f_operation_size, .ref h_operation_products, .ref h_operation_quotients, .int f_operation_badColumn])), (h_operation_products, .inr (2, [.ref h_operation_products_cells])), (h_operation_products_cells, .inl (G.2.1, 36, .inl a_operation_products_cells)), (h_operation_quotients, .inr (2, [.ref h_operation_quotients_cells])), (h_operation_quotients_cells, .inl (G.2.1, 36, .inl a_operation_quotients_cells)), (h_braid, .inr (1, [.int f_braid_strands, .int f_braid_count, .ref h_braid_crossings])), (h_braid_crossings, .inl (G.2.1, 12, .inl a_braid_crossings)), (h_weights, .inr (8, [.int f_weights_modulus, .ref h_weights_values])), (h_weights_values, .inr (2, [.ref h_weights_values_cells])), (h_weights_values_cells, .inl (G.2.1, 36, .inl a_weights_values_cells)), (h_o1, .inr (6, [.ref h_o1_operation, .ref h_o1_braid, .ref h_o1_weights])), (h_o1_operation, .inr (5, [.int f_o1_operation_size, .ref h_o1_operation_products, .ref h_o1_operation_quotients, .int f_o1_operation_badColumn])), (h_o1_operation_products, .inr (2, [.ref h_o1_operation_products_cells])), (h_o1_operation_products_cells, .inl (G.2.1, 36, .inl a_o1_operation_products_cells)), (h_o1_operation_quotients, .inr (2, [.ref h_o1_operation_quotients_cells])), (h_o1_operation_quotients_cells, .inl (G.2.1, 36, .inl a_o1_operation_quotients_cells)), (h_o1_braid, .inr (1, [.int f_o1_braid_strands, .int f_o1_braid_count, .ref h_o1_braid_crossings])), (h_o1_braid_crossings, .inl (G.2.1, 12, .inl a_o1_braid_crossings)), (h_o1_weights, .inr (8, [.int f_o1_weights_modulus, .ref h_o1_weights_values])), (h_o1_weights_values, .inr (2, [.ref h_o1_weights_values_cells])), (h_o1_weights_values_cells, .inl (G.2.1, 36, .inl a_o1_weights_values_cells))]
theorem in_X6_copyFrom_X6 : ∀ w ∈ u_ws RX6 TX6 3, w ∈ wsX6_copyFrom := by decide +kernel
theorem lk_X6_copyFrom_10 : Cond.fieldLink RX6 10 "QuandleColorings$State" "operation" "LQuandleColorings$Operation;" ∈ wsX6_copyFrom := by decide +kernel
theorem lk_X6_copyFrom_19 : Cond.fieldLink RX6 19 "QuandleColorings$State" "braid" "LQuandleColorings$Braid;" ∈ wsX6_copyFrom := by decide +kernel
theorem lk_X6_copyFrom_26 : Cond.fieldLink RX6 26 "QuandleColorings$State" "weights" "LQuandleColorings$Weights;" ∈ wsX6_copyFrom := by decide +kernel
def wp_X6_copyFrom (post : Int32 → Int32 → (Nat → Int32) → (Nat → Int32) → Int32 → Int32 → (Nat → Int32) → Int32 → (Nat → Int32) → Prop) (a_operation_products_cells : Nat → Int32) (a_operation_quotients_cells : Nat → Int32) (a_braid_crossings : Nat → Int32) (a_weights_values_cells : Nat → Int32) (f_o1_operation_size : Int32) (f_o1_operation_badColumn : Int32) (a_o1_operation_products_cells : Nat → Int32) (a_o1_operation_quotients_cells : Nat → Int32) (f_o1_braid_strands : Int32) (f_o1_braid_count : Int32) (a_o1_braid_crossings : Nat → Int32) (f_o1_weights_modulus : Int32) (a_o1_weights_values_cells : Nat → Int32) : Prop := (wp_X5_copyFrom (fun (f_operation_size_1 : Int32) (f_operation_badColumn_2 : Int32) (a_operation_products_cells_3 : Nat → Int32) (a_operation_quotients_cells_4 : Nat → Int32) => (wp_X1_copyFrom (fun (f_braid_strands_6 : Int32) (f_braid_count_7 : Int32) (a_braid_crossings_8 : Nat → Int32) => (wp_X8_copyFrom (fun (f_weights_modulus_10 : Int32) (a_weights_values_cells_11 : Nat → Int32) => (post f_operation_size_1 f_operation_badColumn_2 a_operation_products_cells_3 a_operation_quotients_cells_4 f_braid_strands_6 f_braid_count_7 a_braid_crossings_8 f_weights_modulus_10 a_weights_values_cells_11)) a_weights_values_cells f_o1_weights_modulus a_o1_weights_values_cells)) a_braid_crossings f_o1_braid_strands f_o1_braid_count a_o1_braid_crossings)) a_operation_products_cells a_operation_quotients_cells f_o1_operation_size f_o1_operation_badColumn a_o1_operation_products_cells a_o1_operation_quotients_cells)
set_option maxHeartbeats 4000000 in
set_option maxRecDepth 100000 in
theorem c_X6_copyFrom {l : Launch} (G : qn_G) (sz : Nat) (h_this h_operation h_braid h_weights h_operation_products h_operation_quotients h_operation_products_cells h_operation_quotients_cells h_braid_crossings h_weights_values h_weights_values_cells h_o1 h_o1_operation h_o1_braid h_o1_weights h_o1_operation_products h_o1_operation_quotients h_o1_operation_products_cells h_o1_operation_quotients_cells h_o1_braid_crossings h_o1_weights_values h_o1_weights_values_cells : Nat) (f_operation_size : Int32) (f_operation_badColumn : Int32) (a_operation_products_cells : Nat → Int32) (a_operation_quotients_cells : Nat → Int32) (f_braid_strands : Int32) (f_braid_count : Int32) (a_braid_crossings : Nat → Int32) (f_weights_modulus : Int32) (a_weights_values_cells : Nat → Int32) (f_o1_operation_size : Int32) (f_o1_operation_badColumn : Int32) (a_o1_operation_products_cells : Nat → Int32) (a_o1_operation_quotients_cells : Nat → Int32) (f_o1_braid_strands : Int32) (f_o1_braid_count : Int32) (a_o1_braid_crossings : Nat → Int32) (f_o1_weights_modulus : Int32) (a_o1_weights_values_cells : Nat → Int32) {post : Int32 → Int32 → (Nat → Int32) → (Nat → Int32) → Int32 → Int32 → (Nat → Int32) → Int32 → (Nat → Int32) → Prop} (hw : wp_X6_copyFrom post a_operation_products_cells a_operation_quotients_cells a_braid_crossings a_weights_values_cells f_o1_operation_size f_o1_operation_badColumn a_o1_operation_products_cells a_o1_operation_quotients_cells f_o1_braid_strands f_o1_braid_count a_o1_braid_crossings f_o1_weights_modulus a_o1_weights_values_cells) : Met l yX6_copyFrom wsX6_copyFrom rm_X6_copyFrom (qn_PC G [.ref h_this, .ref h_o1] sz (wd_X6_copyFrom G h_this h_operation h_braid h_weights h_operation_products h_operation_quotients h_operation_products_cells h_operation_quotients_cells h_braid_crossings h_weights_values h_weights_values_cells h_o1 h_o1_operation h_o1_braid h_o1_weights h_o1_operation_products h_o1_operation_quotients h_o1_operation_products_cells h_o1_operation_quotients_cells h_o1_braid_crossings h_o1_weights_values h_o1_weights_values_cells f_operation_size f_operation_badColumn a_operation_products_cells a_operation_quotients_cells f_braid_strands f_braid_count a_braid_crossings f_weights_modulus a_weights_values_cells f_o1_operation_size f_o1_operation_badColumn a_o1_operation_products_cells a_o1_operation_quotients_cells f_o1_braid_strands f_o1_braid_count a_o1_braid_crossings f_o1_weights_modulus a_o1_weights_values_cells)) (qn_QV G (fun (u : Int32 × Int32 × (Nat → Int32) × (Nat → Int32) × Int32 × Int32 × (Nat → Int32) × Int32 × (Nat → Int32)) => post u.1 u.2.1 u.2.2.1 u.2.2.2.1 u.2.2.2.2.1 u.2.2.2.2.2.1 u.2.2.2.2.2.2.1 u.2.2.2.2.2.2.2.1 u.2.2.2.2.2.2.2.2) (fun u : Int32 × Int32 × (Nat → Int32) × (Nat → Int32) × Int32 × Int32 × (Nat → Int32) × Int32 × (Nat → Int32) => wd_X6_copyFrom G h_this h_operation h_braid h_weights h_operation_products h_operation_quotients h_operation_products_cells h_operation_quotients_cells h_braid_crossings h_weights_values h_weights_values_cells h_o1 h_o1_operation h_o1_braid h_o1_weights h_o1_operation_products h_o1_operation_quotients h_o1_operation_products_cells h_o1_operation_quotients_cells h_o1_braid_crossings h_o1_weights_values h_o1_weights_values_cells (u.1) (u.2.1) (u.2.2.1) (u.2.2.2.1) (u.2.2.2.2.1) (u.2.2.2.2.2.1) (u.2.2.2.2.2.2.1) (u.2.2.2.2.2.2.2.1) (u.2.2.2.2.2.2.2.2) f_o1_operation_size f_o1_operation_badColumn a_o1_operation_products_cells a_o1_operation_quotients_cells f_o1_braid_strands f_o1_braid_count a_o1_braid_crossings f_o1_weights_modulus a_o1_weights_values_cells) (va_A (wd_X6_copyFrom G h_this h_operation h_braid h_weights h_operation_products h_operation_quotients h_operation_products_cells h_operation_quotients_cells h_braid_crossings h_weights_values h_weights_values_cells h_o1 h_o1_operation h_o1_braid h_o1_weights h_o1_operation_products h_o1_operation_quotients h_o1_operation_products_cells h_o1_operation_quotients_cells h_o1_braid_crossings h_o1_weights_values h_o1_weights_values_cells f_operation_size f_operation_badColumn a_operation_products_cells a_operation_quotients_cells f_braid_strands f_braid_count a_braid_crossings f_weights_modulus a_weights_values_cells f_o1_operation_size f_o1_operation_badColumn a_o1_operation_products_cells a_o1_operation_quotients_cells f_o1_braid_strands f_o1_braid_count a_o1_braid_crossings f_o1_weights_modulus a_o1_weights_values_cells) sz)) 0 0 (va_A (wd_X6_copyFrom G h_this h_operation h_braid h_weights h_operation_products h_operation_quotients h_operation_products_cells h_operation_quotients_cells h_braid_crossings h_weights_values h_weights_values_cells h_o1 h_o1_operation h_o1_braid h_o1_weights h_o1_operation_products h_o1_operation_quotients h_o1_operation_products_cells h_o1_operation_quotients_cells h_o1_braid_crossings h_o1_weights_values h_o1_weights_values_cells f_operation_size f_operation_badColumn a_operation_products_cells a_operation_quotients_cells f_braid_strands f_braid_count a_braid_crossings f_weights_modulus a_weights_values_cells f_o1_operation_size f_o1_operation_badColumn a_o1_operation_products_cells a_o1_operation_quotients_cells f_o1_braid_strands f_o1_braid_count a_o1_braid_crossings f_o1_weights_modulus a_o1_weights_values_cells) sz) := by
  refine Met.ofW (cc := cX6_copyFrom) (maxL := 2) (ret := none) (by decide) rfl ?_
  intro p e s m args below meth c s₁ B hml hv
  obtain ⟨rfl, hsz, hP, hE, hD0⟩ := hv
  have C0 : qn_C p m c cX6_copyFrom 2 s _ wsX6_copyFrom RX6 meth none := qn_C0 B hml
  obtain ⟨hx, hb, -, hown, hts, hr, hlocks⟩ := id C0
  subst hsz
  have hD := hD0.self (sz := s.heap.size)
  generalize hAe : va_A (wd_X6_copyFrom G h_this h_operation h_braid h_weights h_operation_products h_operation_quotients h_operation_products_cells h_operation_quotients_cells h_braid_crossings h_weights_values h_weights_values_cells h_o1 h_o1_operation h_o1_braid h_o1_weights h_o1_operation_products h_o1_operation_quotients h_o1_operation_products_cells h_o1_operation_quotients_cells h_o1_braid_crossings h_o1_weights_values h_o1_weights_values_cells f_operation_size f_operation_badColumn a_operation_products_cells a_operation_quotients_cells f_braid_strands f_braid_count a_braid_crossings f_weights_modulus a_weights_values_cells f_o1_operation_size f_o1_operation_badColumn a_o1_operation_products_cells a_o1_operation_quotients_cells f_o1_braid_strands f_o1_braid_count a_o1_braid_crossings f_o1_weights_modulus a_o1_weights_values_cells) s.heap.size = A at hD ⊢
  have hA : ∀ q : Nat, s.heap.size ≤ q → A q := fun q h => by rw [← hAe]; exact Or.inr h
  clear hAe
  have hS : va_S A s.heap s.heap [] := va_S.rf
  have hl := lv_entry ([.ref h_this, .ref h_o1]) (n := 2) (Nat.le_of_ble_eq_true rfl)
  rw [lg_entry_eq]
  generalize (lg_sl ([.ref h_this, .ref h_o1]) ++ List.replicate (2 - (lg_sl ([.ref h_this, .ref h_o1])).length) Slot.unset).toArray = ls at hl ⊢
  have hl : lv_has ls 2 [(0, .ref h_this), (1, .ref h_o1)] := hl
  have hP : va_P G.1 vwCl (wd_X6_copyFrom G h_this h_operation h_braid h_weights h_operation_products h_operation_quotients h_operation_products_cells h_operation_quotients_cells h_braid_crossings h_weights_values h_weights_values_cells h_o1 h_o1_operation h_o1_braid h_o1_weights h_o1_operation_products h_o1_operation_quotients h_o1_operation_products_cells h_o1_operation_quotients_cells h_o1_braid_crossings h_o1_weights_values h_o1_weights_values_cells f_operation_size f_operation_badColumn a_operation_products_cells a_operation_quotients_cells f_braid_strands f_braid_count a_braid_crossings f_weights_modulus a_weights_values_cells f_o1_operation_size f_o1_operation_badColumn a_o1_operation_products_cells a_o1_operation_quotients_cells f_o1_braid_strands f_o1_braid_count a_o1_braid_crossings f_o1_weights_modulus a_o1_weights_values_cells) s.heap := hP
  refine lv_aload_n hx hb dX6_copyFrom_0 rfl (lv_at hl 0 rfl) ?_
  refine va_get (D := G.1) (ci := 6) (v := .ref h_operation) (C := RX6) (T := TX6) (N := 3) hx hb hts in_X6_copyFrom_X6 hown hE.1 hP 0 rfl rfl 0 (by decide) (hts (.fieldLink RX6 10 "QuandleColorings$State" "operation" "LQuandleColorings$Operation;") lk_X6_copyFrom_10) (fun _ h9 => h9) rfl dX6_copyFrom_1 ?_
  refine lv_aload_n hx hb dX6_copyFrom_4 rfl (lv_at hl 1 rfl) ?_
  refine va_get (D := G.1) (ci := 6) (v := .ref h_o1_operation) (C := RX6) (T := TX6) (N := 3) hx hb hts in_X6_copyFrom_X6 hown hE.1 hP 11 rfl rfl 0 (by decide) (hts (.fieldLink RX6 10 "QuandleColorings$State" "operation" "LQuandleColorings$Operation;") lk_X6_copyFrom_10) (fun _ h9 => h9) rfl dX6_copyFrom_5 ?_
  have hC9 : ([1, 2, 3, 4, 5, 12, 13, 14, 15, 16]).map (fun i => (wd_X6_copyFrom G h_this h_operation h_braid h_weights h_operation_products h_operation_quotients h_operation_products_cells h_operation_quotients_cells h_braid_crossings h_weights_values h_weights_values_cells h_o1 h_o1_operation h_o1_braid h_o1_weights h_o1_operation_products h_o1_operation_quotients h_o1_operation_products_cells h_o1_operation_quotients_cells h_o1_braid_crossings h_o1_weights_values h_o1_weights_values_cells f_operation_size f_operation_badColumn a_operation_products_cells a_operation_quotients_cells f_braid_strands f_braid_count a_braid_crossings f_weights_modulus a_weights_values_cells f_o1_operation_size f_o1_operation_badColumn a_o1_operation_products_cells a_o1_operation_quotients_cells f_o1_braid_strands f_o1_braid_count a_o1_braid_crossings f_o1_weights_modulus a_o1_weights_values_cells)[i]?) = (wd_X5_copyFrom G h_operation h_operation_products h_operation_quotients h_operation_products_cells h_operation_quotients_cells h_o1_operation h_o1_operation_products h_o1_operation_quotients h_o1_operation_products_cells h_o1_operation_quotients_cells f_operation_size f_operation_badColumn a_operation_products_cells a_operation_quotients_cells f_o1_operation_size f_o1_operation_badColumn a_o1_operation_products_cells a_o1_operation_quotients_cells).map some := rfl
  refine qn_callV (wd := (fun u : Int32 × Int32 × (Nat → Int32) × (Nat → Int32) => wd_X6_copyFrom G h_this h_operation h_braid h_weights h_operation_products h_operation_quotients h_operation_products_cells h_operation_quotients_cells h_braid_crossings h_weights_values h_weights_values_cells h_o1 h_o1_operation h_o1_braid h_o1_weights h_o1_operation_products h_o1_operation_quotients h_o1_operation_products_cells h_o1_operation_quotients_cells h_o1_braid_crossings h_o1_weights_values h_o1_weights_values_cells (u.1) (u.2.1) (u.2.2.1) (u.2.2.2) f_braid_strands f_braid_count a_braid_crossings f_weights_modulus a_weights_values_cells f_o1_operation_size f_o1_operation_badColumn a_o1_operation_products_cells a_o1_operation_quotients_cells f_o1_braid_strands f_o1_braid_count a_o1_braid_crossings f_o1_weights_modulus a_o1_weights_values_cells)) [1, 2, 3, 4, 5, 12, 13, 14, 15, 16] (va_runV (As := [.ref h_o1_operation]) (rest := []) ⟨hx, hb, hml, hown, hts⟩ (c_X5_copyFrom G _ h_operation h_operation_products h_operation_quotients h_operation_products_cells h_operation_quotients_cells h_o1_operation h_o1_operation_products h_o1_operation_quotients h_o1_operation_products_cells h_o1_operation_quotients_cells f_operation_size f_operation_badColumn a_operation_products_cells a_operation_quotients_cells f_o1_operation_size f_o1_operation_badColumn a_o1_operation_products_cells a_o1_operation_quotients_cells hw) (cwV 1 hts gX6_copyFrom_X5_copyFrom rfl rfl rfl (by decide +kernel) ⟨Nat.le_of_ble_eq_true rfl, Nat.le_of_ble_eq_true rfl⟩) (qn_preV hE hP hD [1, 2, 3, 4, 5, 12, 13, 14, 15, 16] hC9 (by decide +kernel) (ci := 5) rfl rfl) rfl rfl hl.1 rfl (lv_room (Nat.le_of_ble_eq_true rfl)) dX6_copyFrom_8 ⟨Nat.le_of_ble_eq_true rfl, Nat.le_of_ble_eq_true rfl⟩) hP hD hS hA hC9 [none, some 0, some 1, some 2, some 3, some 4, none, none, none, none, none, none, some 5, some 6, some 7, some 8, some 9, none, none, none, none, none] (M := 22) rfl (by decide +kernel) (fun _ => rfl) (fun _ => rfl) (fun u_5 H locs hw hP hD hS => ?_)
  obtain ⟨f_operation_size_1, f_operation_badColumn_2, a_operation_products_cells_3, a_operation_quotients_cells_4⟩ := u_5
  try dsimp only at hw
  have hP : va_P G.1 vwCl (wd_X6_copyFrom G h_this h_operation h_braid h_weights h_operation_products h_operation_quotients h_operation_products_cells h_operation_quotients_cells h_braid_crossings h_weights_values h_weights_values_cells h_o1 h_o1_operation h_o1_braid h_o1_weights h_o1_operation_products h_o1_operation_quotients h_o1_operation_products_cells h_o1_operation_quotients_cells h_o1_braid_crossings h_o1_weights_values h_o1_weights_values_cells f_operation_size_1 f_operation_badColumn_2 a_operation_products_cells_3 a_operation_quotients_cells_4 f_braid_strands f_braid_count a_braid_crossings f_weights_modulus a_weights_values_cells f_o1_operation_size f_o1_operation_badColumn a_o1_operation_products_cells a_o1_operation_quotients_cells f_o1_braid_strands f_o1_braid_count a_o1_braid_crossings f_o1_weights_modulus a_o1_weights_values_cells) H := hP
  have hD : va_D A (wd_X6_copyFrom G h_this h_operation h_braid h_weights h_operation_products h_operation_quotients h_operation_products_cells h_operation_quotients_cells h_braid_crossings h_weights_values h_weights_values_cells h_o1 h_o1_operation h_o1_braid h_o1_weights h_o1_operation_products h_o1_operation_quotients h_o1_operation_products_cells h_o1_operation_quotients_cells h_o1_braid_crossings h_o1_weights_values h_o1_weights_values_cells f_operation_size_1 f_operation_badColumn_2 a_operation_products_cells_3 a_operation_quotients_cells_4 f_braid_strands f_braid_count a_braid_crossings f_weights_modulus a_weights_values_cells f_o1_operation_size f_o1_operation_badColumn a_o1_operation_products_cells a_o1_operation_quotients_cells f_o1_braid_strands f_o1_braid_count a_o1_braid_crossings f_o1_weights_modulus a_o1_weights_values_cells) := hD
  refine lv_aload_n hx hb dX6_copyFrom_11 rfl (lv_at hl 0 rfl) ?_
  refine va_get (D := G.1) (ci := 6) (v := .ref h_braid) (C := RX6) (T := TX6) (N := 3) hx hb hts in_X6_copyFrom_X6 hown hE.1 hP 0 rfl rfl 1 (by decide) (hts (.fieldLink RX6 19 "QuandleColorings$State" "braid" "LQuandleColorings$Braid;") lk_X6_copyFrom_19) (fun _ h9 => h9) rfl dX6_copyFrom_12 ?_
  refine lv_aload_n hx hb dX6_copyFrom_15 rfl (lv_at hl 1 rfl) ?_
  refine va_get (D := G.1) (ci := 6) (v := .ref h_o1_braid) (C := RX6) (T := TX6) (N := 3) hx hb hts in_X6_copyFrom_X6 hown hE.1 hP 11 rfl rfl 1 (by decide) (hts (.fieldLink RX6 19 "QuandleColorings$State" "braid" "LQuandleColorings$Braid;") lk_X6_copyFrom_19) (fun _ h9 => h9) rfl dX6_copyFrom_16 ?_
  have hC9 : ([6, 7, 17, 18]).map (fun i => (wd_X6_copyFrom G h_this h_operation h_braid h_weights h_operation_products h_operation_quotients h_operation_products_cells h_operation_quotients_cells h_braid_crossings h_weights_values h_weights_values_cells h_o1 h_o1_operation h_o1_braid h_o1_weights h_o1_operation_products h_o1_operation_quotients h_o1_operation_products_cells h_o1_operation_quotients_cells h_o1_braid_crossings h_o1_weights_values h_o1_weights_values_cells f_operation_size_1 f_operation_badColumn_2 a_operation_products_cells_3 a_operation_quotients_cells_4 f_braid_strands f_braid_count a_braid_crossings f_weights_modulus a_weights_values_cells f_o1_operation_size f_o1_operation_badColumn a_o1_operation_products_cells a_o1_operation_quotients_cells f_o1_braid_strands f_o1_braid_count a_o1_braid_crossings f_o1_weights_modulus a_o1_weights_values_cells)[i]?) = (wd_X1_copyFrom G h_braid h_braid_crossings h_o1_braid h_o1_braid_crossings f_braid_strands f_braid_count a_braid_crossings f_o1_braid_strands f_o1_braid_count a_o1_braid_crossings).map some := rfl
  refine qn_callV (wd := (fun u : Int32 × Int32 × (Nat → Int32) => wd_X6_copyFrom G h_this h_operation h_braid h_weights h_operation_products h_operation_quotients h_operation_products_cells h_operation_quotients_cells h_braid_crossings h_weights_values h_weights_values_cells h_o1 h_o1_operation h_o1_braid h_o1_weights h_o1_operation_products h_o1_operation_quotients h_o1_operation_products_cells h_o1_operation_quotients_cells h_o1_braid_crossings h_o1_weights_values h_o1_weights_values_cells f_operation_size_1 f_operation_badColumn_2 a_operation_products_cells_3 a_operation_quotients_cells_4 (u.1) (u.2.1) (u.2.2) f_weights_modulus a_weights_values_cells f_o1_operation_size f_o1_operation_badColumn a_o1_operation_products_cells a_o1_operation_quotients_cells f_o1_braid_strands f_o1_braid_count a_o1_braid_crossings f_o1_weights_modulus a_o1_weights_values_cells)) [6, 7, 17, 18] (va_runV (As := [.ref h_o1_braid]) (rest := []) ⟨hx, hb, hml, hown, hts⟩ (c_X1_copyFrom G _ h_braid h_braid_crossings h_o1_braid h_o1_braid_crossings f_braid_strands f_braid_count a_braid_crossings f_o1_braid_strands f_o1_braid_count a_o1_braid_crossings hw) (cwV 1 hts gX6_copyFrom_X1_copyFrom rfl rfl rfl (by decide +kernel) ⟨Nat.le_of_ble_eq_true rfl, Nat.le_of_ble_eq_true rfl⟩) (qn_preV hE hP hD [6, 7, 17, 18] hC9 (by decide +kernel) (ci := 1) rfl rfl) rfl rfl hl.1 rfl (lv_room (Nat.le_of_ble_eq_true rfl)) dX6_copyFrom_19 ⟨Nat.le_of_ble_eq_true rfl, Nat.le_of_ble_eq_true rfl⟩) hP hD hS hA hC9 [none, none, none, none, none, none, some 0, some 1, none, none, none, none, none, none, none, none, none, some 2, some 3, none, none, none] (M := 22) rfl (by decide +kernel) (fun _ => rfl) (fun _ => rfl) (fun u_9 H locs hw hP hD hS => ?_)
  obtain ⟨f_braid_strands_6, f_braid_count_7, a_braid_crossings_8⟩ := u_9
  try dsimp only at hw
  have hP : va_P G.1 vwCl (wd_X6_copyFrom G h_this h_operation h_braid h_weights h_operation_products h_operation_quotients h_operation_products_cells h_operation_quotients_cells h_braid_crossings h_weights_values h_weights_values_cells h_o1 h_o1_operation h_o1_braid h_o1_weights h_o1_operation_products h_o1_operation_quotients h_o1_operation_products_cells h_o1_operation_quotients_cells h_o1_braid_crossings h_o1_weights_values h_o1_weights_values_cells f_operation_size_1 f_operation_badColumn_2 a_operation_products_cells_3 a_operation_quotients_cells_4 f_braid_strands_6 f_braid_count_7 a_braid_crossings_8 f_weights_modulus a_weights_values_cells f_o1_operation_size f_o1_operation_badColumn a_o1_operation_products_cells a_o1_operation_quotients_cells f_o1_braid_strands f_o1_braid_count a_o1_braid_crossings f_o1_weights_modulus a_o1_weights_values_cells) H := hP
  have hD : va_D A (wd_X6_copyFrom G h_this h_operation h_braid h_weights h_operation_products h_operation_quotients h_operation_products_cells h_operation_quotients_cells h_braid_crossings h_weights_values h_weights_values_cells h_o1 h_o1_operation h_o1_braid h_o1_weights h_o1_operation_products h_o1_operation_quotients h_o1_operation_products_cells h_o1_operation_quotients_cells h_o1_braid_crossings h_o1_weights_values h_o1_weights_values_cells f_operation_size_1 f_operation_badColumn_2 a_operation_products_cells_3 a_operation_quotients_cells_4 f_braid_strands_6 f_braid_count_7 a_braid_crossings_8 f_weights_modulus a_weights_values_cells f_o1_operation_size f_o1_operation_badColumn a_o1_operation_products_cells a_o1_operation_quotients_cells f_o1_braid_strands f_o1_braid_count a_o1_braid_crossings f_o1_weights_modulus a_o1_weights_values_cells) := hD
  refine lv_aload_n hx hb dX6_copyFrom_22 rfl (lv_at hl 0 rfl) ?_
  refine va_get (D := G.1) (ci := 6) (v := .ref h_weights) (C := RX6) (T := TX6) (N := 3) hx hb hts in_X6_copyFrom_X6 hown hE.1 hP 0 rfl rfl 2 (by decide) (hts (.fieldLink RX6 26 "QuandleColorings$State" "weights" "LQuandleColorings$Weights;") lk_X6_copyFrom_26) (fun _ h9 => h9) rfl dX6_copyFrom_23 ?_
  refine lv_aload_n hx hb dX6_copyFrom_26 rfl (lv_at hl 1 rfl) ?_
  refine va_get (D := G.1) (ci := 6) (v := .ref h_o1_weights) (C := RX6) (T := TX6) (N := 3) hx hb hts in_X6_copyFrom_X6 hown hE.1 hP 11 rfl rfl 2 (by decide) (hts (.fieldLink RX6 26 "QuandleColorings$State" "weights" "LQuandleColorings$Weights;") lk_X6_copyFrom_26) (fun _ h9 => h9) rfl dX6_copyFrom_27 ?_
  have hC9 : ([8, 9, 10, 19, 20, 21]).map (fun i => (wd_X6_copyFrom G h_this h_operation h_braid h_weights h_operation_products h_operation_quotients h_operation_products_cells h_operation_quotients_cells h_braid_crossings h_weights_values h_weights_values_cells h_o1 h_o1_operation h_o1_braid h_o1_weights h_o1_operation_products h_o1_operation_quotients h_o1_operation_products_cells h_o1_operation_quotients_cells h_o1_braid_crossings h_o1_weights_values h_o1_weights_values_cells f_operation_size_1 f_operation_badColumn_2 a_operation_products_cells_3 a_operation_quotients_cells_4 f_braid_strands_6 f_braid_count_7 a_braid_crossings_8 f_weights_modulus a_weights_values_cells f_o1_operation_size f_o1_operation_badColumn a_o1_operation_products_cells a_o1_operation_quotients_cells f_o1_braid_strands f_o1_braid_count a_o1_braid_crossings f_o1_weights_modulus a_o1_weights_values_cells)[i]?) = (wd_X8_copyFrom G h_weights h_weights_values h_weights_values_cells h_o1_weights h_o1_weights_values h_o1_weights_values_cells f_weights_modulus a_weights_values_cells f_o1_weights_modulus a_o1_weights_values_cells).map some := rfl
  refine qn_callV (wd := (fun u : Int32 × (Nat → Int32) => wd_X6_copyFrom G h_this h_operation h_braid h_weights h_operation_products h_operation_quotients h_operation_products_cells h_operation_quotients_cells h_braid_crossings h_weights_values h_weights_values_cells h_o1 h_o1_operation h_o1_braid h_o1_weights h_o1_operation_products h_o1_operation_quotients h_o1_operation_products_cells h_o1_operation_quotients_cells h_o1_braid_crossings h_o1_weights_values h_o1_weights_values_cells f_operation_size_1 f_operation_badColumn_2 a_operation_products_cells_3 a_operation_quotients_cells_4 f_braid_strands_6 f_braid_count_7 a_braid_crossings_8 (u.1) (u.2) f_o1_operation_size f_o1_operation_badColumn a_o1_operation_products_cells a_o1_operation_quotients_cells f_o1_braid_strands f_o1_braid_count a_o1_braid_crossings f_o1_weights_modulus a_o1_weights_values_cells)) [8, 9, 10, 19, 20, 21] (va_runV (As := [.ref h_o1_weights]) (rest := []) ⟨hx, hb, hml, hown, hts⟩ (c_X8_copyFrom G _ h_weights h_weights_values h_weights_values_cells h_o1_weights h_o1_weights_values h_o1_weights_values_cells f_weights_modulus a_weights_values_cells f_o1_weights_modulus a_o1_weights_values_cells hw) (cwV 1 hts gX6_copyFrom_X8_copyFrom rfl rfl rfl (by decide +kernel) ⟨Nat.le_of_ble_eq_true rfl, Nat.le_of_ble_eq_true rfl⟩) (qn_preV hE hP hD [8, 9, 10, 19, 20, 21] hC9 (by decide +kernel) (ci := 8) rfl rfl) rfl rfl hl.1 rfl (lv_room (Nat.le_of_ble_eq_true rfl)) dX6_copyFrom_30 ⟨Nat.le_of_ble_eq_true rfl, Nat.le_of_ble_eq_true rfl⟩) hP hD hS hA hC9 [none, none, none, none, none, none, none, none, some 0, some 1, some 2, none, none, none, none, none, none, none, none, some 3, some 4, some 5] (M := 22) rfl (by decide +kernel) (fun _ => rfl) (fun _ => rfl) (fun u_12 H locs hw hP hD hS => ?_)
  obtain ⟨f_weights_modulus_10, a_weights_values_cells_11⟩ := u_12
  try dsimp only at hw
  have hP : va_P G.1 vwCl (wd_X6_copyFrom G h_this h_operation h_braid h_weights h_operation_products h_operation_quotients h_operation_products_cells h_operation_quotients_cells h_braid_crossings h_weights_values h_weights_values_cells h_o1 h_o1_operation h_o1_braid h_o1_weights h_o1_operation_products h_o1_operation_quotients h_o1_operation_products_cells h_o1_operation_quotients_cells h_o1_braid_crossings h_o1_weights_values h_o1_weights_values_cells f_operation_size_1 f_operation_badColumn_2 a_operation_products_cells_3 a_operation_quotients_cells_4 f_braid_strands_6 f_braid_count_7 a_braid_crossings_8 f_weights_modulus_10 a_weights_values_cells_11 f_o1_operation_size f_o1_operation_badColumn a_o1_operation_products_cells a_o1_operation_quotients_cells f_o1_braid_strands f_o1_braid_count a_o1_braid_crossings f_o1_weights_modulus a_o1_weights_values_cells) H := hP
  have hD : va_D A (wd_X6_copyFrom G h_this h_operation h_braid h_weights h_operation_products h_operation_quotients h_operation_products_cells h_operation_quotients_cells h_braid_crossings h_weights_values h_weights_values_cells h_o1 h_o1_operation h_o1_braid h_o1_weights h_o1_operation_products h_o1_operation_quotients h_o1_operation_products_cells h_o1_operation_quotients_cells h_o1_braid_crossings h_o1_weights_values h_o1_weights_values_cells f_operation_size_1 f_operation_badColumn_2 a_operation_products_cells_3 a_operation_quotients_cells_4 f_braid_strands_6 f_braid_count_7 a_braid_crossings_8 f_weights_modulus_10 a_weights_values_cells_11 f_o1_operation_size f_o1_operation_badColumn a_o1_operation_products_cells a_o1_operation_quotients_cells f_o1_braid_strands f_o1_braid_count a_o1_braid_crossings f_o1_weights_modulus a_o1_weights_values_cells) := hD
  exact W.vret hx hb hr (fun t ht hW => ⟨⟨(f_operation_size_1, f_operation_badColumn_2, a_operation_products_cells_3, a_operation_quotients_cells_4, f_braid_strands_6, f_braid_count_7, a_braid_crossings_8, f_weights_modulus_10, a_weights_values_cells_11), rfl, hw, by rw [ht]; exact hP, hD⟩, hS.F ht⟩) hS.2.2 dX6_copyFrom_33
-- QuandleColorings$InnerGroup.identity(I)I
abbrev rm_X4_identity : Room := { frames := 0, cells := 0, slots := 0, locals := 0 }
abbrev wd_X4_identity (G : qn_G) : va_W := []
def wp_X4_identity_L4 (KL4 : Int32 → Prop) (x0 : Int32) : Nat → Int32 → Int32 → Prop
  | 0 => fun _ _ => False
  | fu + 1 => fun x1 x2 => ((x0 ≤ x2 → (KL4 x1)) ∧ (¬ x0 ≤ x2 → (∀ x1_2 : Int32, x1_2 = x1 ||| (x2 <<< ((3 * x2) &&& 31)) → (∀ x2_3 : Int32, x2_3 = x2 + 1 → ((wp_X4_identity_L4 KL4 x0 fu) x1_2 x2_3)))))
def wp_X4_identity (post : Int32 → Prop) (x0 : Int32) : Prop := (∃ fu_5 : Nat, wp_X4_identity_L4 (fun (x1_4 : Int32) => (post x1_4)) x0 fu_5 0 0)
set_option maxHeartbeats 4000000 in
set_option maxRecDepth 100000 in
theorem l_X4_identity_4 {p : Program} {l : Launch} {e : Env} {s : State} {m : MethodId} {args : Array Value} {below : List Frame} {meth : Method} {c : Code} {G : qn_G} {A : Nat → Prop} {x0 : Int32} {post : Int32 → Prop} {KL4 : Int32 → Prop} (C0 : qn_C p m c cX4_identity 3 s args wsX4_identity RX4 meth (some .int)) (hE : qn_EV G s) (hA : ∀ q, s.heap.size ≤ q → A q) (hKc : ∀ (x1 : Int32), KL4 x1 → ∀ (H : Heap) (locs : List Loc) (ls : Array Slot), va_P G.1 vwCl (wd_X4_identity G) H → va_D A (wd_X4_identity G) → va_S A s.heap H locs → lv_has ls 3 [(1, .int x1)] → W p l e (headSpec wsX4_identity rm_X4_identity).room s m args below meth c H locs 0 0 (MQ below (qn_QI G (fun (r : Int32) (u : Unit) => post r) (fun u : Unit => wd_X4_identity G) A) args s 0 0 A) (F0 m 23 ls [])) :
    ∀ (fu : Nat) (x1 : Int32) (x2 : Int32), wp_X4_identity_L4 KL4 x0 fu x1 x2 → ∀ (H : Heap) (locs : List Loc) (ls : Array Slot), va_P G.1 vwCl (wd_X4_identity G) H → va_D A (wd_X4_identity G) → va_S A s.heap H locs → lv_has ls 3 [(0, .int x0), (1, .int x1), (2, .int x2)] → W p l e (headSpec wsX4_identity rm_X4_identity).room s m args below meth c H locs 0 0 (MQ below (qn_QI G (fun (r : Int32) (u : Unit) => post r) (fun u : Unit => wd_X4_identity G) A) args s 0 0 A) (F0 m 4 ls []) := by
  obtain ⟨hx, hb, hml, hown, hts, hr, hlocks⟩ := id C0
  intro fu
  induction fu with
  | zero => intro x1 x2 hw; exact hw.elim
  | succ fu ih =>
    intro x1 x2 hw H locs ls hP hD hS hl
    refine lv_iload_n hx hb dX4_identity_4 rfl (lv_at hl 2 rfl) ?_
    refine lv_iload_n hx hb dX4_identity_5 rfl (lv_at hl 0 rfl) ?_
    refine lv_icmp_ge (tgt := 23) hx hb dX4_identity_6 (by decide) (fun c_1 => ?_) (fun c_1 => ?_)
    · have hw := hw.1 c_1
      exact hKc x1 hw _ _ _ hP hD hS (lv_sub hl [1] rfl)
    · have hw := hw.2 c_1
      refine lv_iload_n hx hb dX4_identity_9 rfl (lv_at hl 1 rfl) ?_
      refine lv_iload_n hx hb dX4_identity_10 rfl (lv_at hl 2 rfl) ?_
      refine lv_iconst (v := 3) hx hb dX4_identity_11 (by decide) ?_
      refine lv_iload_n hx hb dX4_identity_12 rfl (lv_at hl 2 rfl) ?_
      refine lv_imul hx hb dX4_identity_13 ?_
      refine lv_ishl hx hb dX4_identity_14 ?_
      refine lv_ior hx hb dX4_identity_15 ?_
      refine lv_topi (fun x1_2 ex1_2 => ?_)
      have hw := hw x1_2 ex1_2
      refine lv_istore_n (lv' := [(1, .int x1_2), (0, .int x0), (2, .int x2)]) hx hb dX4_identity_16 rfl hl (by decide) rfl (fun ls hl => ?_)
      obtain ⟨x2_3, ex2_3⟩ : ∃ y : Int32, y = x2 + 1 := ⟨_, rfl⟩
      have hw := hw x2_3 ex2_3
      refine lv_iinc (v := x2_3) (lv' := [(2, .int x2_3), (1, .int x1_2), (0, .int x0)]) hx hb dX4_identity_17 hl (k := 2) rfl (by rw [ex2_3]; rfl) (by decide) rfl (fun ls hl => ?_)
      refine lv_goto (tgt := 4) hx hb dX4_identity_20 (by decide) ?_
      exact ih x1_2 x2_3 hw _ _ _ hP hD hS (lv_sub hl [2, 1, 0] rfl)
set_option maxHeartbeats 4000000 in
set_option maxRecDepth 100000 in
theorem c_X4_identity {l : Launch} (G : qn_G) (sz : Nat) (x0 : Int32) {post : Int32 → Prop} (hw : wp_X4_identity post x0) : Met l yX4_identity wsX4_identity rm_X4_identity (qn_PC G [.int x0] sz (wd_X4_identity G)) (qn_QI G (fun (r : Int32) (u : Unit) => post r) (fun u : Unit => wd_X4_identity G) (va_A (wd_X4_identity G) sz)) 0 0 (va_A (wd_X4_identity G) sz) := by
  refine Met.ofW (cc := cX4_identity) (maxL := 3) (ret := (some .int)) (by decide) rfl ?_
  intro p e s m args below meth c s₁ B hml hv
  obtain ⟨rfl, hsz, hP, hE, hD0⟩ := hv
  have C0 : qn_C p m c cX4_identity 3 s _ wsX4_identity RX4 meth (some .int) := qn_C0 B hml
  obtain ⟨hx, hb, -, hown, hts, hr, hlocks⟩ := id C0
  subst hsz
  have hD := hD0.self (sz := s.heap.size)
  generalize hAe : va_A (wd_X4_identity G) s.heap.size = A at hD ⊢
  have hA : ∀ q : Nat, s.heap.size ≤ q → A q := fun q h => by rw [← hAe]; exact Or.inr h
  clear hAe
  have hS : va_S A s.heap s.heap [] := va_S.rf
  have hl := lv_entry ([.int x0]) (n := 3) (Nat.le_of_ble_eq_true rfl)
  rw [lg_entry_eq]
  generalize (lg_sl ([.int x0]) ++ List.replicate (3 - (lg_sl ([.int x0])).length) Slot.unset).toArray = ls at hl ⊢
  have hl : lv_has ls 3 [(0, .int x0)] := hl
  have hP : va_P G.1 vwCl (wd_X4_identity G) s.heap := hP
  refine lv_iconst (v := 0) hx hb dX4_identity_0 (by decide) ?_
  refine lv_istore_n (lv' := [(1, .int 0), (0, .int x0)]) hx hb dX4_identity_1 rfl hl (by decide) rfl (fun ls hl => ?_)
  refine lv_iconst (v := 0) hx hb dX4_identity_2 (by decide) ?_
  refine lv_istore_n (lv' := [(2, .int 0), (1, .int 0), (0, .int x0)]) hx hb dX4_identity_3 rfl hl (by decide) rfl (fun ls hl => ?_)
  obtain ⟨fu_5, hw⟩ := hw
  refine l_X4_identity_4 (post := post) C0 hE hA (fun x1_4 hw H locs ls hP hD hS hl => ?_) fu_5 0 0 hw _ _ _ hP hD hS (lv_sub hl [2, 1, 0] rfl)
  refine lv_iload_n hx hb dX4_identity_23 rfl (lv_at hl 0 rfl) ?_
  exact W.iret (v := x1_4) hx hb hr (fun t ht hW => ⟨⟨x1_4, (), rfl, hw, by rw [ht]; exact hP, hD⟩, hS.F ht⟩) hS.2.2 dX4_identity_24
-- QuandleColorings$InnerGroup.imageOf(II)I
abbrev rm_X4_imageOf : Room := { frames := 0, cells := 0, slots := 0, locals := 0 }
abbrev wd_X4_imageOf (G : qn_G) : va_W := []
def wp_X4_imageOf (post : Int32 → Prop) (x0 : Int32) (x1 : Int32) : Prop := (post ((x0 >>> ((3 * x1) &&& 31)) &&& 7))
set_option maxHeartbeats 4000000 in
set_option maxRecDepth 100000 in
theorem c_X4_imageOf {l : Launch} (G : qn_G) (sz : Nat) (x0 : Int32) (x1 : Int32) {post : Int32 → Prop} (hw : wp_X4_imageOf post x0 x1) : Met l yX4_imageOf wsX4_imageOf rm_X4_imageOf (qn_PC G [.int x0, .int x1] sz (wd_X4_imageOf G)) (qn_QI G (fun (r : Int32) (u : Unit) => post r) (fun u : Unit => wd_X4_imageOf G) (va_A (wd_X4_imageOf G) sz)) 0 0 (va_A (wd_X4_imageOf G) sz) := by
  refine Met.ofW (cc := cX4_imageOf) (maxL := 2) (ret := (some .int)) (by decide) rfl ?_
  intro p e s m args below meth c s₁ B hml hv
  obtain ⟨rfl, hsz, hP, hE, hD0⟩ := hv
  have C0 : qn_C p m c cX4_imageOf 2 s _ wsX4_imageOf RX4 meth (some .int) := qn_C0 B hml
  obtain ⟨hx, hb, -, hown, hts, hr, hlocks⟩ := id C0
  subst hsz
  have hD := hD0.self (sz := s.heap.size)
  generalize hAe : va_A (wd_X4_imageOf G) s.heap.size = A at hD ⊢
  have hA : ∀ q : Nat, s.heap.size ≤ q → A q := fun q h => by rw [← hAe]; exact Or.inr h
  clear hAe
  have hS : va_S A s.heap s.heap [] := va_S.rf
  have hl := lv_entry ([.int x0, .int x1]) (n := 2) (Nat.le_of_ble_eq_true rfl)
  rw [lg_entry_eq]
  generalize (lg_sl ([.int x0, .int x1]) ++ List.replicate (2 - (lg_sl ([.int x0, .int x1])).length) Slot.unset).toArray = ls at hl ⊢
  have hl : lv_has ls 2 [(0, .int x0), (1, .int x1)] := hl
  have hP : va_P G.1 vwCl (wd_X4_imageOf G) s.heap := hP
  refine lv_iload_n hx hb dX4_imageOf_0 rfl (lv_at hl 0 rfl) ?_
  refine lv_iconst (v := 3) hx hb dX4_imageOf_1 (by decide) ?_
  refine lv_iload_n hx hb dX4_imageOf_2 rfl (lv_at hl 1 rfl) ?_
  refine lv_imul hx hb dX4_imageOf_3 ?_
  refine lv_ishr hx hb dX4_imageOf_4 ?_
  refine lv_bipush (v := 7) hx hb dX4_imageOf_5 (by decide) ?_
  refine lv_iand hx hb dX4_imageOf_7 ?_
  exact W.iret (v := ((x0 >>> ((3 * x1) &&& 31)) &&& 7)) hx hb hr (fun t ht hW => ⟨⟨((x0 >>> ((3 * x1) &&& 31)) &&& 7), (), rfl, hw, by rw [ht]; exact hP, hD⟩, hS.F ht⟩) hS.2.2 dX4_imageOf_8
-- java/lang/Integer.bitCount(I)I
abbrev rm_J6_bitCount_0f7a4 : Room := { frames := 0, cells := 0, slots := 0, locals := 0 }
abbrev wd_J6_bitCount_0f7a4 (G : qn_G) : va_W := []
def wp_J6_bitCount_0f7a4 (post : Int32 → Prop) (x0 : Int32) : Prop := (∀ x0_1 : Int32, x0_1 = x0 - (((x0.toUInt32 >>> ((1 : Int32).toUInt32 &&& Int32.toUInt32 31)).toInt32) &&& 1431655765) → (∀ x0_2 : Int32, x0_2 = (x0_1 &&& 858993459) + (((x0_1.toUInt32 >>> ((2 : Int32).toUInt32 &&& Int32.toUInt32 31)).toInt32) &&& 858993459) → (∀ x0_3 : Int32, x0_3 = (x0_2 + ((x0_2.toUInt32 >>> ((4 : Int32).toUInt32 &&& Int32.toUInt32 31)).toInt32)) &&& 252645135 → (∀ x0_4 : Int32, x0_4 = x0_3 + ((x0_3.toUInt32 >>> ((8 : Int32).toUInt32 &&& Int32.toUInt32 31)).toInt32) → (∀ x0_5 : Int32, x0_5 = x0_4 + ((x0_4.toUInt32 >>> ((16 : Int32).toUInt32 &&& Int32.toUInt32 31)).toInt32) → (post (x0_5 &&& 63)))))))
set_option maxHeartbeats 4000000 in
set_option maxRecDepth 100000 in
theorem c_J6_bitCount_0f7a4 {l : Launch} (G : qn_G) (sz : Nat) (x0 : Int32) {post : Int32 → Prop} (hw : wp_J6_bitCount_0f7a4 post x0) : Met l yJ6_bitCount_0f7a4 wsJ6_bitCount_0f7a4 rm_J6_bitCount_0f7a4 (qn_PC G [.int x0] sz (wd_J6_bitCount_0f7a4 G)) (qn_QI G (fun (r : Int32) (u : Unit) => post r) (fun u : Unit => wd_J6_bitCount_0f7a4 G) (va_A (wd_J6_bitCount_0f7a4 G) sz)) 0 0 (va_A (wd_J6_bitCount_0f7a4 G) sz) := by
  refine Met.ofW (cc := cJ6_bitCount_0f7a4) (maxL := 1) (ret := (some .int)) (by decide) rfl ?_
  intro p e s m args below meth c s₁ B hml hv
  obtain ⟨rfl, hsz, hP, hE, hD0⟩ := hv
  have C0 : qn_C p m c cJ6_bitCount_0f7a4 1 s _ wsJ6_bitCount_0f7a4 RJ6 meth (some .int) := qn_C0 B hml
  obtain ⟨hx, hb, -, hown, hts, hr, hlocks⟩ := id C0
  subst hsz
  have hD := hD0.self (sz := s.heap.size)
  generalize hAe : va_A (wd_J6_bitCount_0f7a4 G) s.heap.size = A at hD ⊢
  have hA : ∀ q : Nat, s.heap.size ≤ q → A q := fun q h => by rw [← hAe]; exact Or.inr h
  clear hAe
  have hS : va_S A s.heap s.heap [] := va_S.rf
  have hl := lv_entry ([.int x0]) (n := 1) (Nat.le_of_ble_eq_true rfl)
  rw [lg_entry_eq]
  generalize (lg_sl ([.int x0]) ++ List.replicate (1 - (lg_sl ([.int x0])).length) Slot.unset).toArray = ls at hl ⊢
  have hl : lv_has ls 1 [(0, .int x0)] := hl
  have hP : va_P G.1 vwCl (wd_J6_bitCount_0f7a4 G) s.heap := hP
  refine lv_iload_n hx hb dJ6_bitCount_0f7a4_0 rfl (lv_at hl 0 rfl) ?_
  refine lv_iload_n hx hb dJ6_bitCount_0f7a4_1 rfl (lv_at hl 0 rfl) ?_
  refine lv_iconst (v := 1) hx hb dJ6_bitCount_0f7a4_2 (by decide) ?_
  refine lv_iushr hx hb dJ6_bitCount_0f7a4_3 rfl ?_
  refine lv_ldcw (v := 1431655765) hx hb hown (hts (.constant RJ6 265 1431655765) (by decide +kernel)) dJ6_bitCount_0f7a4_4 ?_
  refine lv_iand hx hb dJ6_bitCount_0f7a4_7 ?_
  refine lv_isub hx hb dJ6_bitCount_0f7a4_8 ?_
  refine lv_topi (fun x0_1 ex0_1 => ?_)
  have hw := hw x0_1 ex0_1
  refine lv_istore_n (lv' := [(0, .int x0_1)]) hx hb dJ6_bitCount_0f7a4_9 rfl hl (by decide) rfl (fun ls hl => ?_)
  refine lv_iload_n hx hb dJ6_bitCount_0f7a4_10 rfl (lv_at hl 0 rfl) ?_
  refine lv_ldcw (v := 858993459) hx hb hown (hts (.constant RJ6 266 858993459) (by decide +kernel)) dJ6_bitCount_0f7a4_11 ?_
  refine lv_iand hx hb dJ6_bitCount_0f7a4_14 ?_
  refine lv_iload_n hx hb dJ6_bitCount_0f7a4_15 rfl (lv_at hl 0 rfl) ?_
  refine lv_iconst (v := 2) hx hb dJ6_bitCount_0f7a4_16 (by decide) ?_
  refine lv_iushr hx hb dJ6_bitCount_0f7a4_17 rfl ?_
  refine lv_ldcw (v := 858993459) hx hb hown (hts (.constant RJ6 266 858993459) (by decide +kernel)) dJ6_bitCount_0f7a4_18 ?_
  refine lv_iand hx hb dJ6_bitCount_0f7a4_21 ?_
  refine lv_iadd hx hb dJ6_bitCount_0f7a4_22 ?_
  refine lv_topi (fun x0_2 ex0_2 => ?_)
  have hw := hw x0_2 ex0_2
  refine lv_istore_n (lv' := [(0, .int x0_2)]) hx hb dJ6_bitCount_0f7a4_23 rfl hl (by decide) rfl (fun ls hl => ?_)
  refine lv_iload_n hx hb dJ6_bitCount_0f7a4_24 rfl (lv_at hl 0 rfl) ?_
  refine lv_iload_n hx hb dJ6_bitCount_0f7a4_25 rfl (lv_at hl 0 rfl) ?_
  refine lv_iconst (v := 4) hx hb dJ6_bitCount_0f7a4_26 (by decide) ?_
  refine lv_iushr hx hb dJ6_bitCount_0f7a4_27 rfl ?_
  refine lv_iadd hx hb dJ6_bitCount_0f7a4_28 ?_
  refine lv_ldcw (v := 252645135) hx hb hown (hts (.constant RJ6 267 252645135) (by decide +kernel)) dJ6_bitCount_0f7a4_29 ?_
  refine lv_iand hx hb dJ6_bitCount_0f7a4_32 ?_
  refine lv_topi (fun x0_3 ex0_3 => ?_)
  have hw := hw x0_3 ex0_3
  refine lv_istore_n (lv' := [(0, .int x0_3)]) hx hb dJ6_bitCount_0f7a4_33 rfl hl (by decide) rfl (fun ls hl => ?_)
  refine lv_iload_n hx hb dJ6_bitCount_0f7a4_34 rfl (lv_at hl 0 rfl) ?_
  refine lv_iload_n hx hb dJ6_bitCount_0f7a4_35 rfl (lv_at hl 0 rfl) ?_
  refine lv_bipush (v := 8) hx hb dJ6_bitCount_0f7a4_36 (by decide) ?_
  refine lv_iushr hx hb dJ6_bitCount_0f7a4_38 rfl ?_
  refine lv_iadd hx hb dJ6_bitCount_0f7a4_39 ?_
  refine lv_topi (fun x0_4 ex0_4 => ?_)
  have hw := hw x0_4 ex0_4
  refine lv_istore_n (lv' := [(0, .int x0_4)]) hx hb dJ6_bitCount_0f7a4_40 rfl hl (by decide) rfl (fun ls hl => ?_)
  refine lv_iload_n hx hb dJ6_bitCount_0f7a4_41 rfl (lv_at hl 0 rfl) ?_
  refine lv_iload_n hx hb dJ6_bitCount_0f7a4_42 rfl (lv_at hl 0 rfl) ?_
  refine lv_bipush (v := 16) hx hb dJ6_bitCount_0f7a4_43 (by decide) ?_
  refine lv_iushr hx hb dJ6_bitCount_0f7a4_45 rfl ?_
  refine lv_iadd hx hb dJ6_bitCount_0f7a4_46 ?_
  refine lv_topi (fun x0_5 ex0_5 => ?_)
  have hw := hw x0_5 ex0_5
  refine lv_istore_n (lv' := [(0, .int x0_5)]) hx hb dJ6_bitCount_0f7a4_47 rfl hl (by decide) rfl (fun ls hl => ?_)
  refine lv_iload_n hx hb dJ6_bitCount_0f7a4_48 rfl (lv_at hl 0 rfl) ?_
  refine lv_bipush (v := 63) hx hb dJ6_bitCount_0f7a4_49 (by decide) ?_
  refine lv_iand hx hb dJ6_bitCount_0f7a4_51 ?_
  exact W.iret (v := (x0_5 &&& 63)) hx hb hr (fun t ht hW => ⟨⟨(x0_5 &&& 63), (), rfl, hw, by rw [ht]; exact hP, hD⟩, hS.F ht⟩) hS.2.2 dJ6_bitCount_0f7a4_52
-- QuandleColorings$InnerGroup.rankOf(II)I
abbrev rm_X4_rankOf : Room := { frames := 1, cells := 0, slots := 0, locals := 21 }
abbrev wd_X4_rankOf (G : qn_G) : va_W := []
def wp_X4_rankOf_L7 (KL7 : Int32 → Prop) (x0 : Int32) (x1 : Int32) : Nat → Int32 → Int32 → Int32 → Prop
  | 0 => fun _ _ _ => False
  | fu + 1 => fun x2 x3 x4 => ((x1 ≤ x4 → (KL7 x2)) ∧ (¬ x1 ≤ x4 → (wp_X4_imageOf (fun (r_2 : Int32) => (wp_J6_bitCount_0f7a4 (fun (r_3 : Int32) => (∀ x6_4 : Int32, x6_4 = r_2 - r_3 → (∀ x2_5 : Int32, x2_5 = (x2 * (x1 - x4)) + x6_4 → (∀ x3_6 : Int32, x3_6 = x3 ||| (1 <<< (r_2 &&& 31)) → (∀ x4_7 : Int32, x4_7 = x4 + 1 → ((wp_X4_rankOf_L7 KL7 x0 x1 fu) x2_5 x3_6 x4_7)))))) (x3 &&& ((1 <<< (r_2 &&& 31)) - 1)))) x0 x4)))
def wp_X4_rankOf (post : Int32 → Prop) (x0 : Int32) (x1 : Int32) : Prop := (∃ fu_9 : Nat, wp_X4_rankOf_L7 (fun (x2_8 : Int32) => (post x2_8)) x0 x1 fu_9 0 0 0)
set_option maxHeartbeats 4000000 in
set_option maxRecDepth 100000 in
theorem l_X4_rankOf_7 {p : Program} {l : Launch} {e : Env} {s : State} {m : MethodId} {args : Array Value} {below : List Frame} {meth : Method} {c : Code} {G : qn_G} {A : Nat → Prop} {x0 : Int32} {x1 : Int32} {post : Int32 → Prop} {KL7 : Int32 → Prop} (C0 : qn_C p m c cX4_rankOf 7 s args wsX4_rankOf RX4 meth (some .int)) (hE : qn_EV G s) (hA : ∀ q, s.heap.size ≤ q → A q) (hKc : ∀ (x2 : Int32), KL7 x2 → ∀ (H : Heap) (locs : List Loc) (ls : Array Slot), va_P G.1 vwCl (wd_X4_rankOf G) H → va_D A (wd_X4_rankOf G) → va_S A s.heap H locs → lv_has ls 7 [(2, .int x2)] → W p l e (headSpec wsX4_rankOf rm_X4_rankOf).room s m args below meth c H locs 0 0 (MQ below (qn_QI G (fun (r : Int32) (u : Unit) => post r) (fun u : Unit => wd_X4_rankOf G) A) args s 0 0 A) (F0 m 60 ls [])) :
    ∀ (fu : Nat) (x2 : Int32) (x3 : Int32) (x4 : Int32), wp_X4_rankOf_L7 KL7 x0 x1 fu x2 x3 x4 → ∀ (H : Heap) (locs : List Loc) (ls : Array Slot), va_P G.1 vwCl (wd_X4_rankOf G) H → va_D A (wd_X4_rankOf G) → va_S A s.heap H locs → lv_has ls 7 [(0, .int x0), (1, .int x1), (2, .int x2), (3, .int x3), (4, .int x4)] → W p l e (headSpec wsX4_rankOf rm_X4_rankOf).room s m args below meth c H locs 0 0 (MQ below (qn_QI G (fun (r : Int32) (u : Unit) => post r) (fun u : Unit => wd_X4_rankOf G) A) args s 0 0 A) (F0 m 7 ls []) := by
  obtain ⟨hx, hb, hml, hown, hts, hr, hlocks⟩ := id C0
  intro fu
  induction fu with
  | zero => intro x2 x3 x4 hw; exact hw.elim
  | succ fu ih =>
    intro x2 x3 x4 hw H locs ls hP hD hS hl
    refine lv_iload hx hb dX4_rankOf_7 (lv_at hl 4 rfl) ?_
    refine lv_iload_n hx hb dX4_rankOf_9 rfl (lv_at hl 1 rfl) ?_
    refine lv_icmp_ge (tgt := 60) hx hb dX4_rankOf_10 (by decide) (fun c_1 => ?_) (fun c_1 => ?_)
    · have hw := hw.1 c_1
      exact hKc x2 hw _ _ _ hP hD hS (lv_sub hl [2] rfl)
    · have hw := hw.2 c_1
      refine lv_iload_n hx hb dX4_rankOf_13 rfl (lv_at hl 0 rfl) ?_
      refine lv_iload hx hb dX4_rankOf_14 (lv_at hl 4 rfl) ?_
      have hC9 : ([] : List Nat).map (fun i => (wd_X4_rankOf G)[i]?) = (wd_X4_imageOf G).map some := rfl
      refine qn_callI (wd := (fun u : Unit => wd_X4_rankOf G)) [] (va_runS (As := [.int x0, .int x4]) (rest := []) ⟨hx, hb, hml, hown, hts⟩ (c_X4_imageOf G _ x0 x4 hw) (va_cwS 2 hts gX4_rankOf_X4_imageOf rfl rfl rfl (by decide +kernel) ⟨Nat.le_of_ble_eq_true rfl, Nat.le_of_ble_eq_true rfl⟩) (qn_preS hE hP hD [] hC9 (by decide +kernel)) rfl rfl hl.1 rfl (lv_room (Nat.le_of_ble_eq_true rfl)) dX4_rankOf_16 ⟨Nat.le_of_ble_eq_true rfl, Nat.le_of_ble_eq_true rfl⟩) hP hD hS hA hC9 [] (M := 0) rfl (by decide +kernel) (fun _ => rfl) (fun _ => rfl) (fun r_2 _ H locs hw hP hD hS => ?_)
      try dsimp only at hw
      have hP : va_P G.1 vwCl (wd_X4_rankOf G) H := hP
      have hD : va_D A (wd_X4_rankOf G) := hD
      refine lv_istore (lv' := [(5, .int r_2), (0, .int x0), (1, .int x1), (2, .int x2), (3, .int x3), (4, .int x4)]) hx hb dX4_rankOf_19 hl (by decide) rfl (fun ls hl => ?_)
      refine lv_iload hx hb dX4_rankOf_21 (lv_at hl 0 rfl) ?_
      refine lv_iload_n hx hb dX4_rankOf_23 rfl (lv_at hl 4 rfl) ?_
      refine lv_iconst (v := 1) hx hb dX4_rankOf_24 (by decide) ?_
      refine lv_iload hx hb dX4_rankOf_25 (lv_at hl 0 rfl) ?_
      refine lv_ishl hx hb dX4_rankOf_27 ?_
      refine lv_iconst (v := 1) hx hb dX4_rankOf_28 (by decide) ?_
      refine lv_isub hx hb dX4_rankOf_29 ?_
      refine lv_iand hx hb dX4_rankOf_30 ?_
      have hC9 : ([] : List Nat).map (fun i => (wd_X4_rankOf G)[i]?) = (wd_J6_bitCount_0f7a4 G).map some := rfl
      refine qn_callI (wd := (fun u : Unit => wd_X4_rankOf G)) [] (va_runS (As := [.int (x3 &&& ((1 <<< (r_2 &&& 31)) - 1))]) (rest := [.int r_2]) ⟨hx, hb, hml, hown, hts⟩ (c_J6_bitCount_0f7a4 G _ (x3 &&& ((1 <<< (r_2 &&& 31)) - 1)) hw) (va_cwS 1 hts gX4_rankOf_J6_bitCount_0f7a4 rfl rfl rfl (by decide +kernel) ⟨Nat.le_of_ble_eq_true rfl, Nat.le_of_ble_eq_true rfl⟩) (qn_preS hE hP hD [] hC9 (by decide +kernel)) rfl rfl hl.1 rfl (lv_room (Nat.le_of_ble_eq_true rfl)) dX4_rankOf_31 ⟨Nat.le_of_ble_eq_true rfl, Nat.le_of_ble_eq_true rfl⟩) hP hD hS hA hC9 [] (M := 0) rfl (by decide +kernel) (fun _ => rfl) (fun _ => rfl) (fun r_3 _ H locs hw hP hD hS => ?_)
      try dsimp only at hw
      have hP : va_P G.1 vwCl (wd_X4_rankOf G) H := hP
      have hD : va_D A (wd_X4_rankOf G) := hD
      refine lv_isub hx hb dX4_rankOf_34 ?_
      refine lv_topi (fun x6_4 ex6_4 => ?_)
      have hw := hw x6_4 ex6_4
      refine lv_istore (lv' := [(6, .int x6_4), (5, .int r_2), (0, .int x0), (1, .int x1), (2, .int x2), (3, .int x3), (4, .int x4)]) hx hb dX4_rankOf_35 hl (by decide) rfl (fun ls hl => ?_)
      refine lv_iload_n hx hb dX4_rankOf_37 rfl (lv_at hl 4 rfl) ?_
      refine lv_iload_n hx hb dX4_rankOf_38 rfl (lv_at hl 3 rfl) ?_
      refine lv_iload hx hb dX4_rankOf_39 (lv_at hl 6 rfl) ?_
      refine lv_isub hx hb dX4_rankOf_41 ?_
      refine lv_imul hx hb dX4_rankOf_42 ?_
      refine lv_iload hx hb dX4_rankOf_43 (lv_at hl 0 rfl) ?_
      refine lv_iadd hx hb dX4_rankOf_45 ?_
      refine lv_topi (fun x2_5 ex2_5 => ?_)
      have hw := hw x2_5 ex2_5
      refine lv_istore_n (lv' := [(2, .int x2_5), (6, .int x6_4), (5, .int r_2), (0, .int x0), (1, .int x1), (3, .int x3), (4, .int x4)]) hx hb dX4_rankOf_46 rfl hl (by decide) rfl (fun ls hl => ?_)
      refine lv_iload_n hx hb dX4_rankOf_47 rfl (lv_at hl 5 rfl) ?_
      refine lv_iconst (v := 1) hx hb dX4_rankOf_48 (by decide) ?_
      refine lv_iload hx hb dX4_rankOf_49 (lv_at hl 2 rfl) ?_
      refine lv_ishl hx hb dX4_rankOf_51 ?_
      refine lv_ior hx hb dX4_rankOf_52 ?_
      refine lv_topi (fun x3_6 ex3_6 => ?_)
      have hw := hw x3_6 ex3_6
      refine lv_istore_n (lv' := [(3, .int x3_6), (2, .int x2_5), (6, .int x6_4), (5, .int r_2), (0, .int x0), (1, .int x1), (4, .int x4)]) hx hb dX4_rankOf_53 rfl hl (by decide) rfl (fun ls hl => ?_)
      obtain ⟨x4_7, ex4_7⟩ : ∃ y : Int32, y = x4 + 1 := ⟨_, rfl⟩
      have hw := hw x4_7 ex4_7
      refine lv_iinc (v := x4_7) (lv' := [(4, .int x4_7), (3, .int x3_6), (2, .int x2_5), (6, .int x6_4), (5, .int r_2), (0, .int x0), (1, .int x1)]) hx hb dX4_rankOf_54 hl (k := 6) rfl (by rw [ex4_7]; rfl) (by decide) rfl (fun ls hl => ?_)
      refine lv_goto (tgt := 7) hx hb dX4_rankOf_57 (by decide) ?_
      exact ih x2_5 x3_6 x4_7 hw _ _ _ hP hD hS (lv_sub hl [5, 6, 2, 1, 0] rfl)
set_option maxHeartbeats 4000000 in
set_option maxRecDepth 100000 in
theorem c_X4_rankOf {l : Launch} (G : qn_G) (sz : Nat) (x0 : Int32) (x1 : Int32) {post : Int32 → Prop} (hw : wp_X4_rankOf post x0 x1) : Met l yX4_rankOf wsX4_rankOf rm_X4_rankOf (qn_PC G [.int x0, .int x1] sz (wd_X4_rankOf G)) (qn_QI G (fun (r : Int32) (u : Unit) => post r) (fun u : Unit => wd_X4_rankOf G) (va_A (wd_X4_rankOf G) sz)) 0 0 (va_A (wd_X4_rankOf G) sz) := by
  refine Met.ofW (cc := cX4_rankOf) (maxL := 7) (ret := (some .int)) (by decide) rfl ?_
  intro p e s m args below meth c s₁ B hml hv
  obtain ⟨rfl, hsz, hP, hE, hD0⟩ := hv
  have C0 : qn_C p m c cX4_rankOf 7 s _ wsX4_rankOf RX4 meth (some .int) := qn_C0 B hml
  obtain ⟨hx, hb, -, hown, hts, hr, hlocks⟩ := id C0
  subst hsz
  have hD := hD0.self (sz := s.heap.size)
  generalize hAe : va_A (wd_X4_rankOf G) s.heap.size = A at hD ⊢
  have hA : ∀ q : Nat, s.heap.size ≤ q → A q := fun q h => by rw [← hAe]; exact Or.inr h
  clear hAe
  have hS : va_S A s.heap s.heap [] := va_S.rf
  have hl := lv_entry ([.int x0, .int x1]) (n := 7) (Nat.le_of_ble_eq_true rfl)
  rw [lg_entry_eq]
  generalize (lg_sl ([.int x0, .int x1]) ++ List.replicate (7 - (lg_sl ([.int x0, .int x1])).length) Slot.unset).toArray = ls at hl ⊢
  have hl : lv_has ls 7 [(0, .int x0), (1, .int x1)] := hl
  have hP : va_P G.1 vwCl (wd_X4_rankOf G) s.heap := hP
  refine lv_iconst (v := 0) hx hb dX4_rankOf_0 (by decide) ?_
  refine lv_istore_n (lv' := [(2, .int 0), (0, .int x0), (1, .int x1)]) hx hb dX4_rankOf_1 rfl hl (by decide) rfl (fun ls hl => ?_)
  refine lv_iconst (v := 0) hx hb dX4_rankOf_2 (by decide) ?_
  refine lv_istore_n (lv' := [(3, .int 0), (2, .int 0), (0, .int x0), (1, .int x1)]) hx hb dX4_rankOf_3 rfl hl (by decide) rfl (fun ls hl => ?_)
  refine lv_iconst (v := 0) hx hb dX4_rankOf_4 (by decide) ?_
  refine lv_istore (lv' := [(4, .int 0), (3, .int 0), (2, .int 0), (0, .int x0), (1, .int x1)]) hx hb dX4_rankOf_5 hl (by decide) rfl (fun ls hl => ?_)
  obtain ⟨fu_9, hw⟩ := hw
  refine l_X4_rankOf_7 (post := post) C0 hE hA (fun x2_8 hw H locs ls hP hD hS hl => ?_) fu_9 0 0 0 hw _ _ _ hP hD hS (lv_sub hl [3, 4, 2, 1, 0] rfl)
  refine lv_iload_n hx hb dX4_rankOf_60 rfl (lv_at hl 0 rfl) ?_
  exact W.iret (v := x2_8) hx hb hr (fun t ht hW => ⟨⟨x2_8, (), rfl, hw, by rw [ht]; exact hP, hD⟩, hS.F ht⟩) hS.2.2 dX4_rankOf_61
-- QuandleColorings$InnerGroup.include(II)V
abbrev rm_X4_include : Room := { frames := 2, cells := 0, slots := 0, locals := 47 }
abbrev wd_X4_include (G : qn_G) (h_this h_members h_isMember : Nat) (f_count : Int32) (a_members : Nat → Int32) (a_isMember : Nat → Int32) : va_W := [(h_this, .inr (4, [.ref h_members, .ref h_isMember, .int f_count])), (h_members, .inl (G.2.1, 720, .inl a_members)), (h_isMember, .inl (G.2.2.1, 720, .inl a_isMember))]
theorem in_X4_include_X4 : ∀ w ∈ u_ws RX4 TX4 3, w ∈ wsX4_include := by decide +kernel
theorem lk_X4_include_15 : Cond.fieldLink RX4 15 "QuandleColorings$InnerGroup" "isMember" "[Z" ∈ wsX4_include := by decide +kernel
theorem lk_X4_include_19 : Cond.fieldLink RX4 19 "QuandleColorings$InnerGroup" "count" "I" ∈ wsX4_include := by decide +kernel
theorem lk_X4_include_9 : Cond.fieldLink RX4 9 "QuandleColorings$InnerGroup" "members" "[I" ∈ wsX4_include := by decide +kernel
def wp_X4_include (post : Int32 → (Nat → Int32) → (Nat → Int32) → Prop) (f_count : Int32) (a_members : Nat → Int32) (a_isMember : Nat → Int32) (x1 : Int32) (x2 : Int32) : Prop := (wp_X4_rankOf (fun (r_1 : Int32) => ((r_1 < 0 → (post f_count a_members a_isMember)) ∧ (¬ r_1 < 0 → ((720 ≤ r_1 → (post f_count a_members a_isMember)) ∧ (¬ 720 ≤ r_1 → (vp_in r_1 720 ∧ ((¬ (a_isMember r_1.toNatClampNeg) = 0 → (post f_count a_members a_isMember)) ∧ ((a_isMember r_1.toNatClampNeg) = 0 → ((720 ≤ f_count → (post f_count a_members a_isMember)) ∧ (¬ 720 ≤ f_count → (vp_in r_1 720 ∧ (∀ a_isMember_6 : Nat → Int32, a_isMember_6 = upd a_isMember r_1.toNatClampNeg (vp_nar .boolean 1) → (vp_in f_count 720 ∧ (∀ a_members_7 : Nat → Int32, a_members_7 = upd a_members f_count.toNatClampNeg x1 → (∀ f_count_8 : Int32, f_count_8 = f_count + 1 → (post f_count_8 a_members_7 a_isMember_6)))))))))))))))) x1 x2)
set_option maxHeartbeats 4000000 in
set_option maxRecDepth 100000 in
theorem c_X4_include {l : Launch} (G : qn_G) (sz : Nat) (h_this h_members h_isMember : Nat) (f_count : Int32) (a_members : Nat → Int32) (a_isMember : Nat → Int32) (x1 : Int32) (x2 : Int32) {post : Int32 → (Nat → Int32) → (Nat → Int32) → Prop} (hw : wp_X4_include post f_count a_members a_isMember x1 x2) : Met l yX4_include wsX4_include rm_X4_include (qn_PC G [.ref h_this, .int x1, .int x2] sz (wd_X4_include G h_this h_members h_isMember f_count a_members a_isMember)) (qn_QV G (fun (u : Int32 × (Nat → Int32) × (Nat → Int32)) => post u.1 u.2.1 u.2.2) (fun u : Int32 × (Nat → Int32) × (Nat → Int32) => wd_X4_include G h_this h_members h_isMember (u.1) (u.2.1) (u.2.2)) (va_A (wd_X4_include G h_this h_members h_isMember f_count a_members a_isMember) sz)) 0 0 (va_A (wd_X4_include G h_this h_members h_isMember f_count a_members a_isMember) sz) := by
  refine Met.ofW (cc := cX4_include) (maxL := 4) (ret := none) (by decide) rfl ?_
  intro p e s m args below meth c s₁ B hml hv
  obtain ⟨rfl, hsz, hP, hE, hD0⟩ := hv
  have C0 : qn_C p m c cX4_include 4 s _ wsX4_include RX4 meth none := qn_C0 B hml
  obtain ⟨hx, hb, -, hown, hts, hr, hlocks⟩ := id C0
  subst hsz
  have hD := hD0.self (sz := s.heap.size)
  generalize hAe : va_A (wd_X4_include G h_this h_members h_isMember f_count a_members a_isMember) s.heap.size = A at hD ⊢
  have hA : ∀ q : Nat, s.heap.size ≤ q → A q := fun q h => by rw [← hAe]; exact Or.inr h
  clear hAe
  have hS : va_S A s.heap s.heap [] := va_S.rf
  have hl := lv_entry ([.ref h_this, .int x1, .int x2]) (n := 4) (Nat.le_of_ble_eq_true rfl)
  rw [lg_entry_eq]
  generalize (lg_sl ([.ref h_this, .int x1, .int x2]) ++ List.replicate (4 - (lg_sl ([.ref h_this, .int x1, .int x2])).length) Slot.unset).toArray = ls at hl ⊢
  have hl : lv_has ls 4 [(0, .ref h_this), (1, .int x1), (2, .int x2)] := hl
  have hP : va_P G.1 vwCl (wd_X4_include G h_this h_members h_isMember f_count a_members a_isMember) s.heap := hP
  refine lv_iload_n hx hb dX4_include_0 rfl (lv_at hl 1 rfl) ?_
  refine lv_iload_n hx hb dX4_include_1 rfl (lv_at hl 2 rfl) ?_
  have hC9 : ([] : List Nat).map (fun i => (wd_X4_include G h_this h_members h_isMember f_count a_members a_isMember)[i]?) = (wd_X4_rankOf G).map some := rfl
  refine qn_callI (wd := (fun u : Unit => wd_X4_include G h_this h_members h_isMember f_count a_members a_isMember)) [] (va_runS (As := [.int x1, .int x2]) (rest := []) ⟨hx, hb, hml, hown, hts⟩ (c_X4_rankOf G _ x1 x2 hw) (va_cwS 2 hts gX4_include_X4_rankOf rfl rfl rfl (by decide +kernel) ⟨Nat.le_of_ble_eq_true rfl, Nat.le_of_ble_eq_true rfl⟩) (qn_preS hE hP hD [] hC9 (by decide +kernel)) rfl rfl hl.1 rfl (lv_room (Nat.le_of_ble_eq_true rfl)) dX4_include_2 ⟨Nat.le_of_ble_eq_true rfl, Nat.le_of_ble_eq_true rfl⟩) hP hD hS hA hC9 [none, none, none] (M := 3) rfl (by decide +kernel) (fun _ => rfl) (fun _ => rfl) (fun r_1 _ H locs hw hP hD hS => ?_)
  try dsimp only at hw
  have hP : va_P G.1 vwCl (wd_X4_include G h_this h_members h_isMember f_count a_members a_isMember) H := hP
  have hD : va_D A (wd_X4_include G h_this h_members h_isMember f_count a_members a_isMember) := hD
  refine lv_istore_n (lv' := [(3, .int r_1), (0, .ref h_this), (1, .int x1), (2, .int x2)]) hx hb dX4_include_5 rfl hl (by decide) rfl (fun ls hl => ?_)
  refine lv_iload_n hx hb dX4_include_6 rfl (lv_at hl 0 rfl) ?_
  refine lv_if_lt (tgt := 63) hx hb dX4_include_7 (by decide) (fun c_2 => ?_) (fun c_2 => ?_)
  · have hw := hw.1 c_2
    exact W.vret hx hb hr (fun t ht hW => ⟨⟨(f_count, a_members, a_isMember), rfl, hw, by rw [ht]; exact hP, hD⟩, hS.F ht⟩) hS.2.2 dX4_include_63
  · have hw := hw.2 c_2
    refine lv_iload_n hx hb dX4_include_10 rfl (lv_at hl 0 rfl) ?_
    refine lv_sipush (v := 720) hx hb dX4_include_11 (by decide) ?_
    refine lv_icmp_ge (tgt := 63) hx hb dX4_include_14 (by decide) (fun c_3 => ?_) (fun c_3 => ?_)
    · have hw := hw.1 c_3
      exact W.vret hx hb hr (fun t ht hW => ⟨⟨(f_count, a_members, a_isMember), rfl, hw, by rw [ht]; exact hP, hD⟩, hS.F ht⟩) hS.2.2 dX4_include_63
    · have hw := hw.2 c_3
      refine lv_aload_n hx hb dX4_include_17 rfl (lv_at hl 1 rfl) ?_
      refine va_get (D := G.1) (ci := 4) (v := .ref h_isMember) (C := RX4) (T := TX4) (N := 3) hx hb hts in_X4_include_X4 hown hE.1 hP 0 rfl rfl 1 (by decide) (hts (.fieldLink RX4 15 "QuandleColorings$InnerGroup" "isMember" "[Z") lk_X4_include_15) (fun _ h9 => h9) rfl dX4_include_18 ?_
      refine lv_iload_n hx hb dX4_include_21 rfl (lv_at hl 0 rfl) ?_
      have hin := hw.1
      have hw := hw.2
      refine va_zald hx hb hE.1 hP 2 1 rfl rfl hin dX4_include_22 ?_
      refine lv_if_ne (tgt := 63) hx hb dX4_include_23 (by decide) (fun c_4 => ?_) (fun c_4 => ?_)
      · have hw := hw.1 c_4
        exact W.vret hx hb hr (fun t ht hW => ⟨⟨(f_count, a_members, a_isMember), rfl, hw, by rw [ht]; exact hP, hD⟩, hS.F ht⟩) hS.2.2 dX4_include_63
      · have hw := hw.2 c_4
        refine lv_aload_n hx hb dX4_include_26 rfl (lv_at hl 1 rfl) ?_
        refine va_get (D := G.1) (ci := 4) (v := .int f_count) (C := RX4) (T := TX4) (N := 3) hx hb hts in_X4_include_X4 hown hE.1 hP 0 rfl rfl 2 (by decide) (hts (.fieldLink RX4 19 "QuandleColorings$InnerGroup" "count" "I") lk_X4_include_19) (fun _ h9 => h9) rfl dX4_include_27 ?_
        refine lv_sipush (v := 720) hx hb dX4_include_30 (by decide) ?_
        refine lv_icmp_ge (tgt := 63) hx hb dX4_include_33 (by decide) (fun c_5 => ?_) (fun c_5 => ?_)
        · have hw := hw.1 c_5
          exact W.vret hx hb hr (fun t ht hW => ⟨⟨(f_count, a_members, a_isMember), rfl, hw, by rw [ht]; exact hP, hD⟩, hS.F ht⟩) hS.2.2 dX4_include_63
        · have hw := hw.2 c_5
          refine lv_aload_n hx hb dX4_include_36 rfl (lv_at hl 1 rfl) ?_
          refine va_get (D := G.1) (ci := 4) (v := .ref h_isMember) (C := RX4) (T := TX4) (N := 3) hx hb hts in_X4_include_X4 hown hE.1 hP 0 rfl rfl 1 (by decide) (hts (.fieldLink RX4 15 "QuandleColorings$InnerGroup" "isMember" "[Z") lk_X4_include_15) (fun _ h9 => h9) rfl dX4_include_37 ?_
          refine lv_iload_n hx hb dX4_include_40 rfl (lv_at hl 0 rfl) ?_
          refine lv_iconst (v := 1) hx hb dX4_include_41 (by decide) ?_
          have hin := hw.1
          have hw := hw.2
          obtain ⟨a_isMember_6, ea_isMember_6⟩ : ∃ y : Nat → Int32, y = upd a_isMember r_1.toNatClampNeg (vp_nar .boolean 1) := ⟨_, rfl⟩
          have hw := hw a_isMember_6 ea_isMember_6
          refine va_zast hx hb hE.1 hP hD hS 2 1 rfl rfl hin dX4_include_42 (fun H locs hP hD hS => ?_)
          rw [← ea_isMember_6] at hP hD
          have hP : va_P G.1 vwCl (wd_X4_include G h_this h_members h_isMember f_count a_members a_isMember_6) H := hP
          have hD : va_D A (wd_X4_include G h_this h_members h_isMember f_count a_members a_isMember_6) := hD
          refine lv_aload_n hx hb dX4_include_43 rfl (lv_at hl 1 rfl) ?_
          refine va_get (D := G.1) (ci := 4) (v := .ref h_members) (C := RX4) (T := TX4) (N := 3) hx hb hts in_X4_include_X4 hown hE.1 hP 0 rfl rfl 0 (by decide) (hts (.fieldLink RX4 9 "QuandleColorings$InnerGroup" "members" "[I") lk_X4_include_9) (fun _ h9 => h9) rfl dX4_include_44 ?_
          refine lv_aload_n hx hb dX4_include_47 rfl (lv_at hl 1 rfl) ?_
          refine va_get (D := G.1) (ci := 4) (v := .int f_count) (C := RX4) (T := TX4) (N := 3) hx hb hts in_X4_include_X4 hown hE.1 hP 0 rfl rfl 2 (by decide) (hts (.fieldLink RX4 19 "QuandleColorings$InnerGroup" "count" "I") lk_X4_include_19) (fun _ h9 => h9) rfl dX4_include_48 ?_
          refine lv_iload_n hx hb dX4_include_51 rfl (lv_at hl 2 rfl) ?_
          have hin := hw.1
          have hw := hw.2
          obtain ⟨a_members_7, ea_members_7⟩ : ∃ y : Nat → Int32, y = upd a_members f_count.toNatClampNeg x1 := ⟨_, rfl⟩
          have hw := hw a_members_7 ea_members_7
          refine va_iast hx hb hE.1 hP hD hS 1 0 rfl rfl hin dX4_include_52 (fun H locs hP hD hS => ?_)
          rw [← ea_members_7] at hP hD
          have hP : va_P G.1 vwCl (wd_X4_include G h_this h_members h_isMember f_count a_members_7 a_isMember_6) H := hP
          have hD : va_D A (wd_X4_include G h_this h_members h_isMember f_count a_members_7 a_isMember_6) := hD
          refine lv_aload_n hx hb dX4_include_53 rfl (lv_at hl 1 rfl) ?_
          refine lv_dup hx hb dX4_include_54 rfl ?_
          refine va_get (D := G.1) (ci := 4) (v := .int f_count) (C := RX4) (T := TX4) (N := 3) hx hb hts in_X4_include_X4 hown hE.1 hP 0 rfl rfl 2 (by decide) (hts (.fieldLink RX4 19 "QuandleColorings$InnerGroup" "count" "I") lk_X4_include_19) (fun _ h9 => h9) rfl dX4_include_55 ?_
          refine lv_iconst (v := 1) hx hb dX4_include_58 (by decide) ?_
          refine lv_iadd hx hb dX4_include_59 ?_
          refine lv_topi (fun f_count_8 ef_count_8 => ?_)
          have hw := hw f_count_8 ef_count_8
          refine va_put (D := G.1) (ci := 4) (v := .int f_count_8) (ty := .int) (C := RX4) (T := TX4) (N := 3) hx hb hts in_X4_include_X4 tyX4 tyX4_ok nmX4 hown hE.1 hP hD hS 0 rfl rfl 2 (by decide) (hts (.fieldLink RX4 19 "QuandleColorings$InnerGroup" "count" "I") lk_X4_include_19) (fun _ h9 => h9) rfl (by decide +kernel) rfl rfl (Nat.le_of_ble_eq_true rfl) dX4_include_60 (fun H locs hP hD hS => ?_)
          have hP : va_P G.1 vwCl (wd_X4_include G h_this h_members h_isMember f_count_8 a_members_7 a_isMember_6) H := hP
          have hD : va_D A (wd_X4_include G h_this h_members h_isMember f_count_8 a_members_7 a_isMember_6) := hD
          exact W.vret hx hb hr (fun t ht hW => ⟨⟨(f_count_8, a_members_7, a_isMember_6), rfl, hw, by rw [ht]; exact hP, hD⟩, hS.F ht⟩) hS.2.2 dX4_include_63
-- QuandleColorings$InnerGroup.followedByColumn(ILQuandleColorings$Operation;I)I
abbrev rm_X4_followedByColumn : Room := { frames := 3, cells := 0, slots := 0, locals := 65 }
abbrev wd_X4_followedByColumn (G : qn_G) (h_o1 h_o1_products h_o1_quotients h_o1_products_cells : Nat) (f_o1_size : Int32) (f_o1_badColumn : Int32) (a_o1_products_cells : Nat → Int32) : va_W := [(h_o1, .inr (5, [.int f_o1_size, .ref h_o1_products, .ref h_o1_quotients, .int f_o1_badColumn])), (h_o1_products, .inr (2, [.ref h_o1_products_cells])), (h_o1_products_cells, .inl (G.2.1, 36, .inl a_o1_products_cells))]
theorem in_X4_followedByColumn_X5 : ∀ w ∈ u_ws RX5 TX5 4, w ∈ wsX4_followedByColumn := by decide +kernel
def wp_X4_followedByColumn_L5 (KL5 : Int32 → Prop) (x0 : Int32) (x2 : Int32) (f_o1_size : Int32) (a_o1_products_cells : Nat → Int32) : Nat → Int32 → Int32 → Prop
  | 0 => fun _ _ => False
  | fu + 1 => fun x3 x4 => ((f_o1_size ≤ x4 → (KL5 x3)) ∧ (¬ f_o1_size ≤ x4 → (wp_X4_imageOf (fun (r_2 : Int32) => (wp_X5_product (fun (r_3 : Int32) => (∀ x3_4 : Int32, x3_4 = x3 ||| (r_3 <<< ((3 * x4) &&& 31)) → (∀ x4_5 : Int32, x4_5 = x4 + 1 → ((wp_X4_followedByColumn_L5 KL5 x0 x2 f_o1_size a_o1_products_cells fu) x3_4 x4_5)))) a_o1_products_cells r_2 x2)) x0 x4)))
def wp_X4_followedByColumn (post : Int32 → Prop) (f_o1_size : Int32) (a_o1_products_cells : Nat → Int32) (x0 : Int32) (x2 : Int32) : Prop := (∃ fu_7 : Nat, wp_X4_followedByColumn_L5 (fun (x3_6 : Int32) => (post x3_6)) x0 x2 f_o1_size a_o1_products_cells fu_7 0 0)
set_option maxHeartbeats 4000000 in
set_option maxRecDepth 100000 in
theorem l_X4_followedByColumn_5 {p : Program} {l : Launch} {e : Env} {s : State} {m : MethodId} {args : Array Value} {below : List Frame} {meth : Method} {c : Code} {G : qn_G} {A : Nat → Prop} {h_o1 h_o1_products h_o1_quotients h_o1_products_cells : Nat} {f_o1_size : Int32} {f_o1_badColumn : Int32} {a_o1_products_cells : Nat → Int32} {x0 : Int32} {x2 : Int32} {post : Int32 → Prop} {KL5 : Int32 → Prop} (C0 : qn_C p m c cX4_followedByColumn 5 s args wsX4_followedByColumn RX4 meth (some .int)) (hE : qn_EV G s) (hA : ∀ q, s.heap.size ≤ q → A q) (hKc : ∀ (x3 : Int32), KL5 x3 → ∀ (H : Heap) (locs : List Loc) (ls : Array Slot), va_P G.1 vwCl (wd_X4_followedByColumn G h_o1 h_o1_products h_o1_quotients h_o1_products_cells f_o1_size f_o1_badColumn a_o1_products_cells) H → va_D A (wd_X4_followedByColumn G h_o1 h_o1_products h_o1_quotients h_o1_products_cells f_o1_size f_o1_badColumn a_o1_products_cells) → va_S A s.heap H locs → lv_has ls 5 [(3, .int x3)] → W p l e (headSpec wsX4_followedByColumn rm_X4_followedByColumn).room s m args below meth c H locs 0 0 (MQ below (qn_QI G (fun (r : Int32) (u : Unit) => post r) (fun u : Unit => wd_X4_followedByColumn G h_o1 h_o1_products h_o1_quotients h_o1_products_cells f_o1_size f_o1_badColumn a_o1_products_cells) A) args s 0 0 A) (F0 m 39 ls [])) :
    ∀ (fu : Nat) (x3 : Int32) (x4 : Int32), wp_X4_followedByColumn_L5 KL5 x0 x2 f_o1_size a_o1_products_cells fu x3 x4 → ∀ (H : Heap) (locs : List Loc) (ls : Array Slot), va_P G.1 vwCl (wd_X4_followedByColumn G h_o1 h_o1_products h_o1_quotients h_o1_products_cells f_o1_size f_o1_badColumn a_o1_products_cells) H → va_D A (wd_X4_followedByColumn G h_o1 h_o1_products h_o1_quotients h_o1_products_cells f_o1_size f_o1_badColumn a_o1_products_cells) → va_S A s.heap H locs → lv_has ls 5 [(0, .int x0), (1, .ref h_o1), (2, .int x2), (3, .int x3), (4, .int x4)] → W p l e (headSpec wsX4_followedByColumn rm_X4_followedByColumn).room s m args below meth c H locs 0 0 (MQ below (qn_QI G (fun (r : Int32) (u : Unit) => post r) (fun u : Unit => wd_X4_followedByColumn G h_o1 h_o1_products h_o1_quotients h_o1_products_cells f_o1_size f_o1_badColumn a_o1_products_cells) A) args s 0 0 A) (F0 m 5 ls []) := by
  obtain ⟨hx, hb, hml, hown, hts, hr, hlocks⟩ := id C0
  intro fu
  induction fu with
  | zero => intro x3 x4 hw; exact hw.elim
  | succ fu ih =>
    intro x3 x4 hw H locs ls hP hD hS hl
    refine lv_iload hx hb dX4_followedByColumn_5 (lv_at hl 4 rfl) ?_
    refine lv_aload_n hx hb dX4_followedByColumn_7 rfl (lv_at hl 1 rfl) ?_
    refine va_getN (D := G.1) (ci := 5) (v := .int f_o1_size) (C := RX5) (T := TX5) (N := 4) hx hb hts in_X4_followedByColumn_X5 hown hE.1 hP 0 rfl rfl 0 (by decide) (va_Nw.use rfl (qn_f_InnerGroup_23 hE.2.1)) (fun _ h9 => h9) rfl dX4_followedByColumn_8 ?_
    refine lv_icmp_ge (tgt := 39) hx hb dX4_followedByColumn_11 (by decide) (fun c_1 => ?_) (fun c_1 => ?_)
    · have hw := hw.1 c_1
      exact hKc x3 hw _ _ _ hP hD hS (lv_sub hl [3] rfl)
    · have hw := hw.2 c_1
      refine lv_iload_n hx hb dX4_followedByColumn_14 rfl (lv_at hl 3 rfl) ?_
      refine lv_aload_n hx hb dX4_followedByColumn_15 rfl (lv_at hl 1 rfl) ?_
      refine lv_iload_n hx hb dX4_followedByColumn_16 rfl (lv_at hl 0 rfl) ?_
      refine lv_iload hx hb dX4_followedByColumn_17 (lv_at hl 4 rfl) ?_
      have hC9 : ([] : List Nat).map (fun i => (wd_X4_followedByColumn G h_o1 h_o1_products h_o1_quotients h_o1_products_cells f_o1_size f_o1_badColumn a_o1_products_cells)[i]?) = (wd_X4_imageOf G).map some := rfl
      refine qn_callI (wd := (fun u : Unit => wd_X4_followedByColumn G h_o1 h_o1_products h_o1_quotients h_o1_products_cells f_o1_size f_o1_badColumn a_o1_products_cells)) [] (va_runS (As := [.int x0, .int x4]) (rest := [.ref h_o1, .int x3]) ⟨hx, hb, hml, hown, hts⟩ (c_X4_imageOf G _ x0 x4 hw) (va_cwS 2 hts gX4_followedByColumn_X4_imageOf rfl rfl rfl (by decide +kernel) ⟨Nat.le_of_ble_eq_true rfl, Nat.le_of_ble_eq_true rfl⟩) (qn_preS hE hP hD [] hC9 (by decide +kernel)) rfl rfl hl.1 rfl (lv_room (Nat.le_of_ble_eq_true rfl)) dX4_followedByColumn_19 ⟨Nat.le_of_ble_eq_true rfl, Nat.le_of_ble_eq_true rfl⟩) hP hD hS hA hC9 [none, none, none] (M := 3) rfl (by decide +kernel) (fun _ => rfl) (fun _ => rfl) (fun r_2 _ H locs hw hP hD hS => ?_)
      try dsimp only at hw
      have hP : va_P G.1 vwCl (wd_X4_followedByColumn G h_o1 h_o1_products h_o1_quotients h_o1_products_cells f_o1_size f_o1_badColumn a_o1_products_cells) H := hP
      have hD : va_D A (wd_X4_followedByColumn G h_o1 h_o1_products h_o1_quotients h_o1_products_cells f_o1_size f_o1_badColumn a_o1_products_cells) := hD
      refine lv_iload_n hx hb dX4_followedByColumn_22 rfl (lv_at hl 2 rfl) ?_
      have hC9 : ([0, 1, 2]).map (fun i => (wd_X4_followedByColumn G h_o1 h_o1_products h_o1_quotients h_o1_products_cells f_o1_size f_o1_badColumn a_o1_products_cells)[i]?) = (wd_X5_product G h_o1 h_o1_products h_o1_quotients h_o1_products_cells f_o1_size f_o1_badColumn a_o1_products_cells).map some := rfl
      refine qn_callI (wd := (fun u : Unit => wd_X4_followedByColumn G h_o1 h_o1_products h_o1_quotients h_o1_products_cells f_o1_size f_o1_badColumn a_o1_products_cells)) [0, 1, 2] (va_runV (As := [.int r_2, .int x2]) (rest := [.int x3]) ⟨hx, hb, hml, hown, hts⟩ (c_X5_product G _ h_o1 h_o1_products h_o1_quotients h_o1_products_cells f_o1_size f_o1_badColumn a_o1_products_cells r_2 x2 hw) (cwV 2 hts gX4_followedByColumn_X5_product rfl rfl rfl (by decide +kernel) ⟨Nat.le_of_ble_eq_true rfl, Nat.le_of_ble_eq_true rfl⟩) (qn_preV hE hP hD [0, 1, 2] hC9 (by decide +kernel) (ci := 5) rfl rfl) rfl rfl hl.1 rfl (lv_room (Nat.le_of_ble_eq_true rfl)) dX4_followedByColumn_23 ⟨Nat.le_of_ble_eq_true rfl, Nat.le_of_ble_eq_true rfl⟩) hP hD hS hA hC9 [some 0, some 1, some 2] (M := 3) rfl (by decide +kernel) (fun _ => rfl) (fun _ => rfl) (fun r_3 _ H locs hw hP hD hS => ?_)
      try dsimp only at hw
      have hP : va_P G.1 vwCl (wd_X4_followedByColumn G h_o1 h_o1_products h_o1_quotients h_o1_products_cells f_o1_size f_o1_badColumn a_o1_products_cells) H := hP
      have hD : va_D A (wd_X4_followedByColumn G h_o1 h_o1_products h_o1_quotients h_o1_products_cells f_o1_size f_o1_badColumn a_o1_products_cells) := hD
      refine lv_iconst (v := 3) hx hb dX4_followedByColumn_26 (by decide) ?_
      refine lv_iload hx hb dX4_followedByColumn_27 (lv_at hl 4 rfl) ?_
      refine lv_imul hx hb dX4_followedByColumn_29 ?_
      refine lv_ishl hx hb dX4_followedByColumn_30 ?_
      refine lv_ior hx hb dX4_followedByColumn_31 ?_
      refine lv_topi (fun x3_4 ex3_4 => ?_)
      have hw := hw x3_4 ex3_4
      refine lv_istore_n (lv' := [(3, .int x3_4), (0, .int x0), (1, .ref h_o1), (2, .int x2), (4, .int x4)]) hx hb dX4_followedByColumn_32 rfl hl (by decide) rfl (fun ls hl => ?_)
      obtain ⟨x4_5, ex4_5⟩ : ∃ y : Int32, y = x4 + 1 := ⟨_, rfl⟩
      have hw := hw x4_5 ex4_5
      refine lv_iinc (v := x4_5) (lv' := [(4, .int x4_5), (3, .int x3_4), (0, .int x0), (1, .ref h_o1), (2, .int x2)]) hx hb dX4_followedByColumn_33 hl (k := 4) rfl (by rw [ex4_5]; rfl) (by decide) rfl (fun ls hl => ?_)
      refine lv_goto (tgt := 5) hx hb dX4_followedByColumn_36 (by decide) ?_
      exact ih x3_4 x4_5 hw _ _ _ hP hD hS (lv_sub hl [2, 3, 4, 1, 0] rfl)
set_option maxHeartbeats 4000000 in
set_option maxRecDepth 100000 in
theorem c_X4_followedByColumn {l : Launch} (G : qn_G) (sz : Nat) (h_o1 h_o1_products h_o1_quotients h_o1_products_cells : Nat) (f_o1_size : Int32) (f_o1_badColumn : Int32) (a_o1_products_cells : Nat → Int32) (x0 : Int32) (x2 : Int32) {post : Int32 → Prop} (hw : wp_X4_followedByColumn post f_o1_size a_o1_products_cells x0 x2) : Met l yX4_followedByColumn wsX4_followedByColumn rm_X4_followedByColumn (qn_PC G [.int x0, .ref h_o1, .int x2] sz (wd_X4_followedByColumn G h_o1 h_o1_products h_o1_quotients h_o1_products_cells f_o1_size f_o1_badColumn a_o1_products_cells)) (qn_QI G (fun (r : Int32) (u : Unit) => post r) (fun u : Unit => wd_X4_followedByColumn G h_o1 h_o1_products h_o1_quotients h_o1_products_cells f_o1_size f_o1_badColumn a_o1_products_cells) (va_A (wd_X4_followedByColumn G h_o1 h_o1_products h_o1_quotients h_o1_products_cells f_o1_size f_o1_badColumn a_o1_products_cells) sz)) 0 0 (va_A (wd_X4_followedByColumn G h_o1 h_o1_products h_o1_quotients h_o1_products_cells f_o1_size f_o1_badColumn a_o1_products_cells) sz) := by
  refine Met.ofW (cc := cX4_followedByColumn) (maxL := 5) (ret := (some .int)) (by decide) rfl ?_
  intro p e s m args below meth c s₁ B hml hv
  obtain ⟨rfl, hsz, hP, hE, hD0⟩ := hv
  have C0 : qn_C p m c cX4_followedByColumn 5 s _ wsX4_followedByColumn RX4 meth (some .int) := qn_C0 B hml
  obtain ⟨hx, hb, -, hown, hts, hr, hlocks⟩ := id C0
  subst hsz
  have hD := hD0.self (sz := s.heap.size)
  generalize hAe : va_A (wd_X4_followedByColumn G h_o1 h_o1_products h_o1_quotients h_o1_products_cells f_o1_size f_o1_badColumn a_o1_products_cells) s.heap.size = A at hD ⊢
  have hA : ∀ q : Nat, s.heap.size ≤ q → A q := fun q h => by rw [← hAe]; exact Or.inr h
  clear hAe
  have hS : va_S A s.heap s.heap [] := va_S.rf
  have hl := lv_entry ([.int x0, .ref h_o1, .int x2]) (n := 5) (Nat.le_of_ble_eq_true rfl)
  rw [lg_entry_eq]
  generalize (lg_sl ([.int x0, .ref h_o1, .int x2]) ++ List.replicate (5 - (lg_sl ([.int x0, .ref h_o1, .int x2])).length) Slot.unset).toArray = ls at hl ⊢
  have hl : lv_has ls 5 [(0, .int x0), (1, .ref h_o1), (2, .int x2)] := hl
  have hP : va_P G.1 vwCl (wd_X4_followedByColumn G h_o1 h_o1_products h_o1_quotients h_o1_products_cells f_o1_size f_o1_badColumn a_o1_products_cells) s.heap := hP
  refine lv_iconst (v := 0) hx hb dX4_followedByColumn_0 (by decide) ?_
  refine lv_istore_n (lv' := [(3, .int 0), (0, .int x0), (1, .ref h_o1), (2, .int x2)]) hx hb dX4_followedByColumn_1 rfl hl (by decide) rfl (fun ls hl => ?_)
  refine lv_iconst (v := 0) hx hb dX4_followedByColumn_2 (by decide) ?_
  refine lv_istore (lv' := [(4, .int 0), (3, .int 0), (0, .int x0), (1, .ref h_o1), (2, .int x2)]) hx hb dX4_followedByColumn_3 hl (by decide) rfl (fun ls hl => ?_)
  obtain ⟨fu_7, hw⟩ := hw
  refine l_X4_followedByColumn_5 (post := post) C0 hE hA (fun x3_6 hw H locs ls hP hD hS hl => ?_) fu_7 0 0 hw _ _ _ hP hD hS (lv_sub hl [2, 3, 4, 1, 0] rfl)
  refine lv_iload_n hx hb dX4_followedByColumn_39 rfl (lv_at hl 0 rfl) ?_
  exact W.iret (v := x3_6) hx hb hr (fun t ht hW => ⟨⟨x3_6, (), rfl, hw, by rw [ht]; exact hP, hD⟩, hS.F ht⟩) hS.2.2 dX4_followedByColumn_40
-- QuandleColorings$InnerGroup.orderFor(LQuandleColorings$Operation;)I
abbrev rm_X4_orderFor : Room := { frames := 4, cells := 0, slots := 0, locals := 89 }
abbrev wd_X4_orderFor (G : qn_G) (h_this h_members h_isMember h_o1 h_o1_products h_o1_quotients h_o1_products_cells : Nat) (f_count : Int32) (a_members : Nat → Int32) (a_isMember : Nat → Int32) (f_o1_size : Int32) (f_o1_badColumn : Int32) (a_o1_products_cells : Nat → Int32) : va_W := [(h_this, .inr (4, [.ref h_members, .ref h_isMember, .int f_count])), (h_members, .inl (G.2.1, 720, .inl a_members)), (h_isMember, .inl (G.2.2.1, 720, .inl a_isMember)), (h_o1, .inr (5, [.int f_o1_size, .ref h_o1_products, .ref h_o1_quotients, .int f_o1_badColumn])), (h_o1_products, .inr (2, [.ref h_o1_products_cells])), (h_o1_products_cells, .inl (G.2.1, 36, .inl a_o1_products_cells))]
theorem in_X4_orderFor_X4 : ∀ w ∈ u_ws RX4 TX4 3, w ∈ wsX4_orderFor := by decide +kernel
theorem in_X4_orderFor_X5 : ∀ w ∈ u_ws RX5 TX5 4, w ∈ wsX4_orderFor := by decide +kernel
theorem lk_X4_orderFor_15 : Cond.fieldLink RX4 15 "QuandleColorings$InnerGroup" "isMember" "[Z" ∈ wsX4_orderFor := by decide +kernel
theorem lk_X4_orderFor_19 : Cond.fieldLink RX4 19 "QuandleColorings$InnerGroup" "count" "I" ∈ wsX4_orderFor := by decide +kernel
theorem lk_X4_orderFor_9 : Cond.fieldLink RX4 9 "QuandleColorings$InnerGroup" "members" "[I" ∈ wsX4_orderFor := by decide +kernel
def wp_X4_orderFor_L2 (KL2 : (Nat → Int32) → Prop) : Nat → Int32 → (Nat → Int32) → Prop
  | 0 => fun _ _ => False
  | fu + 1 => fun x2 a_isMember => ((720 ≤ x2 → (KL2 a_isMember)) ∧ (¬ 720 ≤ x2 → (vp_in x2 720 ∧ (∀ a_isMember_2 : Nat → Int32, a_isMember_2 = upd a_isMember x2.toNatClampNeg (vp_nar .boolean 0) → (∀ x2_3 : Int32, x2_3 = x2 + 1 → ((wp_X4_orderFor_L2 KL2 fu) x2_3 a_isMember_2))))))
def wp_X4_orderFor_L61 (KL61 : Int32 → (Nat → Int32) → (Nat → Int32) → Prop) (x2 : Int32) (f_o1_size : Int32) (a_o1_products_cells : Nat → Int32) : Nat → Int32 → Int32 → (Nat → Int32) → (Nat → Int32) → Prop
  | 0 => fun _ _ _ _ => False
  | fu + 1 => fun x3 f_count a_members a_isMember => ((f_o1_size ≤ x3 → (KL61 f_count a_members a_isMember)) ∧ (¬ f_o1_size ≤ x3 → (vp_in x2 720 ∧ (wp_X4_followedByColumn (fun (r_13 : Int32) => (wp_X4_include (fun (f_count_14 : Int32) (a_members_15 : Nat → Int32) (a_isMember_16 : Nat → Int32) => (∀ x3_18 : Int32, x3_18 = x3 + 1 → ((wp_X4_orderFor_L61 KL61 x2 f_o1_size a_o1_products_cells fu) x3_18 f_count_14 a_members_15 a_isMember_16))) f_count a_members a_isMember r_13 f_o1_size)) f_o1_size a_o1_products_cells (a_members x2.toNatClampNeg) x3))))
def wp_X4_orderFor_L44 (KL44 : Int32 → (Nat → Int32) → (Nat → Int32) → Prop) (f_o1_size : Int32) (a_o1_products_cells : Nat → Int32) : Nat → Int32 → Int32 → (Nat → Int32) → (Nat → Int32) → Prop
  | 0 => fun _ _ _ _ => False
  | fu + 1 => fun x2 f_count a_members a_isMember => ((f_count ≤ x2 → (KL44 f_count a_members a_isMember)) ∧ (¬ f_count ≤ x2 → ((720 ≤ x2 → (KL44 f_count a_members a_isMember)) ∧ (¬ 720 ≤ x2 → (∃ fu_23 : Nat, wp_X4_orderFor_L61 (fun (f_count_19 : Int32) (a_members_20 : Nat → Int32) (a_isMember_21 : Nat → Int32) => (∀ x2_22 : Int32, x2_22 = x2 + 1 → ((wp_X4_orderFor_L44 KL44 f_o1_size a_o1_products_cells fu) x2_22 f_count_19 a_members_20 a_isMember_21))) x2 f_o1_size a_o1_products_cells fu_23 0 f_count a_members a_isMember)))))
def wp_X4_orderFor (post : Int32 → Int32 → (Nat → Int32) → (Nat → Int32) → Prop) (a_members : Nat → Int32) (a_isMember : Nat → Int32) (f_o1_size : Int32) (a_o1_products_cells : Nat → Int32) : Prop := (∃ fu_28 : Nat, wp_X4_orderFor_L2 (fun (a_isMember_4 : Nat → Int32) => (wp_X4_identity (fun (r_5 : Int32) => (wp_X4_include (fun (f_count_6 : Int32) (a_members_7 : Nat → Int32) (a_isMember_8 : Nat → Int32) => (∃ fu_27 : Nat, wp_X4_orderFor_L44 (fun (f_count_24 : Int32) (a_members_25 : Nat → Int32) (a_isMember_26 : Nat → Int32) => (post f_count_24 f_count_24 a_members_25 a_isMember_26)) f_o1_size a_o1_products_cells fu_27 0 f_count_6 a_members_7 a_isMember_8)) 0 a_members a_isMember_4 r_5 f_o1_size)) f_o1_size)) fu_28 0 a_isMember)
set_option maxHeartbeats 4000000 in
set_option maxRecDepth 100000 in
theorem l_X4_orderFor_2 {p : Program} {l : Launch} {e : Env} {s : State} {m : MethodId} {args : Array Value} {below : List Frame} {meth : Method} {c : Code} {G : qn_G} {A : Nat → Prop} {h_this h_members h_isMember h_o1 h_o1_products h_o1_quotients h_o1_products_cells : Nat} {f_count : Int32} {a_members : Nat → Int32} {f_o1_size : Int32} {f_o1_badColumn : Int32} {a_o1_products_cells : Nat → Int32} {post : Int32 → Int32 → (Nat → Int32) → (Nat → Int32) → Prop} {KL2 : (Nat → Int32) → Prop} (C0 : qn_C p m c cX4_orderFor 4 s args wsX4_orderFor RX4 meth (some .int)) (hE : qn_EV G s) (hA : ∀ q, s.heap.size ≤ q → A q) (hKc : ∀ (a_isMember : Nat → Int32), KL2 a_isMember → ∀ (H : Heap) (locs : List Loc) (ls : Array Slot), va_P G.1 vwCl (wd_X4_orderFor G h_this h_members h_isMember h_o1 h_o1_products h_o1_quotients h_o1_products_cells f_count a_members a_isMember f_o1_size f_o1_badColumn a_o1_products_cells) H → va_D A (wd_X4_orderFor G h_this h_members h_isMember h_o1 h_o1_products h_o1_quotients h_o1_products_cells f_count a_members a_isMember f_o1_size f_o1_badColumn a_o1_products_cells) → va_S A s.heap H locs → lv_has ls 4 [(0, .ref h_this), (1, .ref h_o1)] → W p l e (headSpec wsX4_orderFor rm_X4_orderFor).room s m args below meth c H locs 0 0 (MQ below (qn_QI G (fun (r : Int32) (u : Int32 × (Nat → Int32) × (Nat → Int32)) => post r u.1 u.2.1 u.2.2) (fun u : Int32 × (Nat → Int32) × (Nat → Int32) => wd_X4_orderFor G h_this h_members h_isMember h_o1 h_o1_products h_o1_quotients h_o1_products_cells (u.1) (u.2.1) (u.2.2) f_o1_size f_o1_badColumn a_o1_products_cells) A) args s 0 0 A) (F0 m 22 ls [])) :
    ∀ (fu : Nat) (x2 : Int32) (a_isMember : Nat → Int32), wp_X4_orderFor_L2 KL2 fu x2 a_isMember → ∀ (H : Heap) (locs : List Loc) (ls : Array Slot), va_P G.1 vwCl (wd_X4_orderFor G h_this h_members h_isMember h_o1 h_o1_products h_o1_quotients h_o1_products_cells f_count a_members a_isMember f_o1_size f_o1_badColumn a_o1_products_cells) H → va_D A (wd_X4_orderFor G h_this h_members h_isMember h_o1 h_o1_products h_o1_quotients h_o1_products_cells f_count a_members a_isMember f_o1_size f_o1_badColumn a_o1_products_cells) → va_S A s.heap H locs → lv_has ls 4 [(0, .ref h_this), (1, .ref h_o1), (2, .int x2)] → W p l e (headSpec wsX4_orderFor rm_X4_orderFor).room s m args below meth c H locs 0 0 (MQ below (qn_QI G (fun (r : Int32) (u : Int32 × (Nat → Int32) × (Nat → Int32)) => post r u.1 u.2.1 u.2.2) (fun u : Int32 × (Nat → Int32) × (Nat → Int32) => wd_X4_orderFor G h_this h_members h_isMember h_o1 h_o1_products h_o1_quotients h_o1_products_cells (u.1) (u.2.1) (u.2.2) f_o1_size f_o1_badColumn a_o1_products_cells) A) args s 0 0 A) (F0 m 2 ls []) := by
  obtain ⟨hx, hb, hml, hown, hts, hr, hlocks⟩ := id C0
  intro fu
  induction fu with
  | zero => intro x2 a_isMember hw; exact hw.elim
  | succ fu ih =>
    intro x2 a_isMember hw H locs ls hP hD hS hl
    refine lv_iload_n hx hb dX4_orderFor_2 rfl (lv_at hl 2 rfl) ?_
    refine lv_sipush (v := 720) hx hb dX4_orderFor_3 (by decide) ?_
    refine lv_icmp_ge (tgt := 22) hx hb dX4_orderFor_6 (by decide) (fun c_1 => ?_) (fun c_1 => ?_)
    · have hw := hw.1 c_1
      exact hKc a_isMember hw _ _ _ hP hD hS (lv_sub hl [0, 1] rfl)
    · have hw := hw.2 c_1
      refine lv_aload_n hx hb dX4_orderFor_9 rfl (lv_at hl 0 rfl) ?_
      refine va_get (D := G.1) (ci := 4) (v := .ref h_isMember) (C := RX4) (T := TX4) (N := 3) hx hb hts in_X4_orderFor_X4 hown hE.1 hP 0 rfl rfl 1 (by decide) (hts (.fieldLink RX4 15 "QuandleColorings$InnerGroup" "isMember" "[Z") lk_X4_orderFor_15) (fun _ h9 => h9) rfl dX4_orderFor_10 ?_
      refine lv_iload_n hx hb dX4_orderFor_13 rfl (lv_at hl 2 rfl) ?_
      refine lv_iconst (v := 0) hx hb dX4_orderFor_14 (by decide) ?_
      have hin := hw.1
      have hw := hw.2
      obtain ⟨a_isMember_2, ea_isMember_2⟩ : ∃ y : Nat → Int32, y = upd a_isMember x2.toNatClampNeg (vp_nar .boolean 0) := ⟨_, rfl⟩
      have hw := hw a_isMember_2 ea_isMember_2
      refine va_zast hx hb hE.1 hP hD hS 2 1 rfl rfl hin dX4_orderFor_15 (fun H locs hP hD hS => ?_)
      rw [← ea_isMember_2] at hP hD
      have hP : va_P G.1 vwCl (wd_X4_orderFor G h_this h_members h_isMember h_o1 h_o1_products h_o1_quotients h_o1_products_cells f_count a_members a_isMember_2 f_o1_size f_o1_badColumn a_o1_products_cells) H := hP
      have hD : va_D A (wd_X4_orderFor G h_this h_members h_isMember h_o1 h_o1_products h_o1_quotients h_o1_products_cells f_count a_members a_isMember_2 f_o1_size f_o1_badColumn a_o1_products_cells) := hD
      obtain ⟨x2_3, ex2_3⟩ : ∃ y : Int32, y = x2 + 1 := ⟨_, rfl⟩
      have hw := hw x2_3 ex2_3
      refine lv_iinc (v := x2_3) (lv' := [(2, .int x2_3), (0, .ref h_this), (1, .ref h_o1)]) hx hb dX4_orderFor_16 hl (k := 2) rfl (by rw [ex2_3]; rfl) (by decide) rfl (fun ls hl => ?_)
      refine lv_goto (tgt := 2) hx hb dX4_orderFor_19 (by decide) ?_
      exact ih x2_3 a_isMember_2 hw _ _ _ hP hD hS (lv_sub hl [1, 2, 0] rfl)
set_option maxHeartbeats 4000000 in
set_option maxRecDepth 100000 in
theorem l_X4_orderFor_61 {p : Program} {l : Launch} {e : Env} {s : State} {m : MethodId} {args : Array Value} {below : List Frame} {meth : Method} {c : Code} {G : qn_G} {A : Nat → Prop} {h_this h_members h_isMember h_o1 h_o1_products h_o1_quotients h_o1_products_cells : Nat} {f_o1_size : Int32} {f_o1_badColumn : Int32} {a_o1_products_cells : Nat → Int32} {x2 : Int32} {post : Int32 → Int32 → (Nat → Int32) → (Nat → Int32) → Prop} {KL61 : Int32 → (Nat → Int32) → (Nat → Int32) → Prop} (C0 : qn_C p m c cX4_orderFor 4 s args wsX4_orderFor RX4 meth (some .int)) (hE : qn_EV G s) (hA : ∀ q, s.heap.size ≤ q → A q) (hKc : ∀ (f_count : Int32) (a_members : Nat → Int32) (a_isMember : Nat → Int32), KL61 f_count a_members a_isMember → ∀ (H : Heap) (locs : List Loc) (ls : Array Slot), va_P G.1 vwCl (wd_X4_orderFor G h_this h_members h_isMember h_o1 h_o1_products h_o1_quotients h_o1_products_cells f_count a_members a_isMember f_o1_size f_o1_badColumn a_o1_products_cells) H → va_D A (wd_X4_orderFor G h_this h_members h_isMember h_o1 h_o1_products h_o1_quotients h_o1_products_cells f_count a_members a_isMember f_o1_size f_o1_badColumn a_o1_products_cells) → va_S A s.heap H locs → lv_has ls 4 [(0, .ref h_this), (1, .ref h_o1), (2, .int x2)] → W p l e (headSpec wsX4_orderFor rm_X4_orderFor).room s m args below meth c H locs 0 0 (MQ below (qn_QI G (fun (r : Int32) (u : Int32 × (Nat → Int32) × (Nat → Int32)) => post r u.1 u.2.1 u.2.2) (fun u : Int32 × (Nat → Int32) × (Nat → Int32) => wd_X4_orderFor G h_this h_members h_isMember h_o1 h_o1_products h_o1_quotients h_o1_products_cells (u.1) (u.2.1) (u.2.2) f_o1_size f_o1_badColumn a_o1_products_cells) A) args s 0 0 A) (F0 m 94 ls [])) :
    ∀ (fu : Nat) (x3 : Int32) (f_count : Int32) (a_members : Nat → Int32) (a_isMember : Nat → Int32), wp_X4_orderFor_L61 KL61 x2 f_o1_size a_o1_products_cells fu x3 f_count a_members a_isMember → ∀ (H : Heap) (locs : List Loc) (ls : Array Slot), va_P G.1 vwCl (wd_X4_orderFor G h_this h_members h_isMember h_o1 h_o1_products h_o1_quotients h_o1_products_cells f_count a_members a_isMember f_o1_size f_o1_badColumn a_o1_products_cells) H → va_D A (wd_X4_orderFor G h_this h_members h_isMember h_o1 h_o1_products h_o1_quotients h_o1_products_cells f_count a_members a_isMember f_o1_size f_o1_badColumn a_o1_products_cells) → va_S A s.heap H locs → lv_has ls 4 [(0, .ref h_this), (1, .ref h_o1), (2, .int x2), (3, .int x3)] → W p l e (headSpec wsX4_orderFor rm_X4_orderFor).room s m args below meth c H locs 0 0 (MQ below (qn_QI G (fun (r : Int32) (u : Int32 × (Nat → Int32) × (Nat → Int32)) => post r u.1 u.2.1 u.2.2) (fun u : Int32 × (Nat → Int32) × (Nat → Int32) => wd_X4_orderFor G h_this h_members h_isMember h_o1 h_o1_products h_o1_quotients h_o1_products_cells (u.1) (u.2.1) (u.2.2) f_o1_size f_o1_badColumn a_o1_products_cells) A) args s 0 0 A) (F0 m 61 ls []) := by
  obtain ⟨hx, hb, hml, hown, hts, hr, hlocks⟩ := id C0
  intro fu
  induction fu with
  | zero => intro x3 f_count a_members a_isMember hw; exact hw.elim
  | succ fu ih =>
    intro x3 f_count a_members a_isMember hw H locs ls hP hD hS hl
    refine lv_iload_n hx hb dX4_orderFor_61 rfl (lv_at hl 3 rfl) ?_
    refine lv_aload_n hx hb dX4_orderFor_62 rfl (lv_at hl 1 rfl) ?_
    refine va_getN (D := G.1) (ci := 5) (v := .int f_o1_size) (C := RX5) (T := TX5) (N := 4) hx hb hts in_X4_orderFor_X5 hown hE.1 hP 3 rfl rfl 0 (by decide) (va_Nw.use rfl (qn_f_InnerGroup_23 hE.2.1)) (fun _ h9 => h9) rfl dX4_orderFor_63 ?_
    refine lv_icmp_ge (tgt := 94) hx hb dX4_orderFor_66 (by decide) (fun c_12 => ?_) (fun c_12 => ?_)
    · have hw := hw.1 c_12
      exact hKc f_count a_members a_isMember hw _ _ _ hP hD hS (lv_sub hl [0, 1, 2] rfl)
    · have hw := hw.2 c_12
      refine lv_aload_n hx hb dX4_orderFor_69 rfl (lv_at hl 0 rfl) ?_
      refine lv_aload_n hx hb dX4_orderFor_70 rfl (lv_at hl 0 rfl) ?_
      refine va_get (D := G.1) (ci := 4) (v := .ref h_members) (C := RX4) (T := TX4) (N := 3) hx hb hts in_X4_orderFor_X4 hown hE.1 hP 0 rfl rfl 0 (by decide) (hts (.fieldLink RX4 9 "QuandleColorings$InnerGroup" "members" "[I") lk_X4_orderFor_9) (fun _ h9 => h9) rfl dX4_orderFor_71 ?_
      refine lv_iload_n hx hb dX4_orderFor_74 rfl (lv_at hl 2 rfl) ?_
      have hin := hw.1
      have hw := hw.2
      refine va_iald hx hb hE.1 hP 1 0 rfl rfl hin dX4_orderFor_75 ?_
      refine lv_aload_n hx hb dX4_orderFor_76 rfl (lv_at hl 1 rfl) ?_
      refine lv_iload_n hx hb dX4_orderFor_77 rfl (lv_at hl 3 rfl) ?_
      have hC9 : ([3, 4, 5]).map (fun i => (wd_X4_orderFor G h_this h_members h_isMember h_o1 h_o1_products h_o1_quotients h_o1_products_cells f_count a_members a_isMember f_o1_size f_o1_badColumn a_o1_products_cells)[i]?) = (wd_X4_followedByColumn G h_o1 h_o1_products h_o1_quotients h_o1_products_cells f_o1_size f_o1_badColumn a_o1_products_cells).map some := rfl
      refine qn_callI (wd := (fun u : Unit => wd_X4_orderFor G h_this h_members h_isMember h_o1 h_o1_products h_o1_quotients h_o1_products_cells f_count a_members a_isMember f_o1_size f_o1_badColumn a_o1_products_cells)) [3, 4, 5] (va_runS (As := [.int (a_members x2.toNatClampNeg), .ref h_o1, .int x3]) (rest := [.ref h_this]) ⟨hx, hb, hml, hown, hts⟩ (c_X4_followedByColumn G _ h_o1 h_o1_products h_o1_quotients h_o1_products_cells f_o1_size f_o1_badColumn a_o1_products_cells (a_members x2.toNatClampNeg) x3 hw) (va_cwS 3 hts gX4_orderFor_X4_followedByColumn rfl rfl rfl (by decide +kernel) ⟨Nat.le_of_ble_eq_true rfl, Nat.le_of_ble_eq_true rfl⟩) (qn_preS hE hP hD [3, 4, 5] hC9 (by decide +kernel)) rfl rfl hl.1 rfl (lv_room (Nat.le_of_ble_eq_true rfl)) dX4_orderFor_78 ⟨Nat.le_of_ble_eq_true rfl, Nat.le_of_ble_eq_true rfl⟩) hP hD hS hA hC9 [none, none, none, some 0, some 1, some 2] (M := 6) rfl (by decide +kernel) (fun _ => rfl) (fun _ => rfl) (fun r_13 _ H locs hw hP hD hS => ?_)
      try dsimp only at hw
      have hP : va_P G.1 vwCl (wd_X4_orderFor G h_this h_members h_isMember h_o1 h_o1_products h_o1_quotients h_o1_products_cells f_count a_members a_isMember f_o1_size f_o1_badColumn a_o1_products_cells) H := hP
      have hD : va_D A (wd_X4_orderFor G h_this h_members h_isMember h_o1 h_o1_products h_o1_quotients h_o1_products_cells f_count a_members a_isMember f_o1_size f_o1_badColumn a_o1_products_cells) := hD
      refine lv_aload_n hx hb dX4_orderFor_81 rfl (lv_at hl 1 rfl) ?_
      refine va_getN (D := G.1) (ci := 5) (v := .int f_o1_size) (C := RX5) (T := TX5) (N := 4) hx hb hts in_X4_orderFor_X5 hown hE.1 hP 3 rfl rfl 0 (by decide) (va_Nw.use rfl (qn_f_InnerGroup_23 hE.2.1)) (fun _ h9 => h9) rfl dX4_orderFor_82 ?_
      have hC9 : ([0, 1, 2]).map (fun i => (wd_X4_orderFor G h_this h_members h_isMember h_o1 h_o1_products h_o1_quotients h_o1_products_cells f_count a_members a_isMember f_o1_size f_o1_badColumn a_o1_products_cells)[i]?) = (wd_X4_include G h_this h_members h_isMember f_count a_members a_isMember).map some := rfl
      refine qn_callV (wd := (fun u : Int32 × (Nat → Int32) × (Nat → Int32) => wd_X4_orderFor G h_this h_members h_isMember h_o1 h_o1_products h_o1_quotients h_o1_products_cells (u.1) (u.2.1) (u.2.2) f_o1_size f_o1_badColumn a_o1_products_cells)) [0, 1, 2] (va_runV (As := [.int r_13, .int f_o1_size]) (rest := []) ⟨hx, hb, hml, hown, hts⟩ (c_X4_include G _ h_this h_members h_isMember f_count a_members a_isMember r_13 f_o1_size hw) (cwV 2 hts gX4_orderFor_X4_include rfl rfl rfl (by decide +kernel) ⟨Nat.le_of_ble_eq_true rfl, Nat.le_of_ble_eq_true rfl⟩) (qn_preV hE hP hD [0, 1, 2] hC9 (by decide +kernel) (ci := 4) rfl rfl) rfl rfl hl.1 rfl (lv_room (Nat.le_of_ble_eq_true rfl)) dX4_orderFor_85 ⟨Nat.le_of_ble_eq_true rfl, Nat.le_of_ble_eq_true rfl⟩) hP hD hS hA hC9 [some 0, some 1, some 2, none, none, none] (M := 6) rfl (by decide +kernel) (fun _ => rfl) (fun _ => rfl) (fun u_17 H locs hw hP hD hS => ?_)
      obtain ⟨f_count_14, a_members_15, a_isMember_16⟩ := u_17
      try dsimp only at hw
      have hP : va_P G.1 vwCl (wd_X4_orderFor G h_this h_members h_isMember h_o1 h_o1_products h_o1_quotients h_o1_products_cells f_count_14 a_members_15 a_isMember_16 f_o1_size f_o1_badColumn a_o1_products_cells) H := hP
      have hD : va_D A (wd_X4_orderFor G h_this h_members h_isMember h_o1 h_o1_products h_o1_quotients h_o1_products_cells f_count_14 a_members_15 a_isMember_16 f_o1_size f_o1_badColumn a_o1_products_cells) := hD
      obtain ⟨x3_18, ex3_18⟩ : ∃ y : Int32, y = x3 + 1 := ⟨_, rfl⟩
      have hw := hw x3_18 ex3_18
      refine lv_iinc (v := x3_18) (lv' := [(3, .int x3_18), (0, .ref h_this), (1, .ref h_o1), (2, .int x2)]) hx hb dX4_orderFor_88 hl (k := 3) rfl (by rw [ex3_18]; rfl) (by decide) rfl (fun ls hl => ?_)
      refine lv_goto (tgt := 61) hx hb dX4_orderFor_91 (by decide) ?_
      exact ih x3_18 f_count_14 a_members_15 a_isMember_16 hw _ _ _ hP hD hS (lv_sub hl [1, 2, 3, 0] rfl)
set_option maxHeartbeats 4000000 in
set_option maxRecDepth 100000 in
theorem l_X4_orderFor_44 {p : Program} {l : Launch} {e : Env} {s : State} {m : MethodId} {args : Array Value} {below : List Frame} {meth : Method} {c : Code} {G : qn_G} {A : Nat → Prop} {h_this h_members h_isMember h_o1 h_o1_products h_o1_quotients h_o1_products_cells : Nat} {f_o1_size : Int32} {f_o1_badColumn : Int32} {a_o1_products_cells : Nat → Int32} {post : Int32 → Int32 → (Nat → Int32) → (Nat → Int32) → Prop} {KL44 : Int32 → (Nat → Int32) → (Nat → Int32) → Prop} (C0 : qn_C p m c cX4_orderFor 4 s args wsX4_orderFor RX4 meth (some .int)) (hE : qn_EV G s) (hA : ∀ q, s.heap.size ≤ q → A q) (hKc : ∀ (f_count : Int32) (a_members : Nat → Int32) (a_isMember : Nat → Int32), KL44 f_count a_members a_isMember → ∀ (H : Heap) (locs : List Loc) (ls : Array Slot), va_P G.1 vwCl (wd_X4_orderFor G h_this h_members h_isMember h_o1 h_o1_products h_o1_quotients h_o1_products_cells f_count a_members a_isMember f_o1_size f_o1_badColumn a_o1_products_cells) H → va_D A (wd_X4_orderFor G h_this h_members h_isMember h_o1 h_o1_products h_o1_quotients h_o1_products_cells f_count a_members a_isMember f_o1_size f_o1_badColumn a_o1_products_cells) → va_S A s.heap H locs → lv_has ls 4 [(0, .ref h_this)] → W p l e (headSpec wsX4_orderFor rm_X4_orderFor).room s m args below meth c H locs 0 0 (MQ below (qn_QI G (fun (r : Int32) (u : Int32 × (Nat → Int32) × (Nat → Int32)) => post r u.1 u.2.1 u.2.2) (fun u : Int32 × (Nat → Int32) × (Nat → Int32) => wd_X4_orderFor G h_this h_members h_isMember h_o1 h_o1_products h_o1_quotients h_o1_products_cells (u.1) (u.2.1) (u.2.2) f_o1_size f_o1_badColumn a_o1_products_cells) A) args s 0 0 A) (F0 m 100 ls [])) :
    ∀ (fu : Nat) (x2 : Int32) (f_count : Int32) (a_members : Nat → Int32) (a_isMember : Nat → Int32), wp_X4_orderFor_L44 KL44 f_o1_size a_o1_products_cells fu x2 f_count a_members a_isMember → ∀ (H : Heap) (locs : List Loc) (ls : Array Slot), va_P G.1 vwCl (wd_X4_orderFor G h_this h_members h_isMember h_o1 h_o1_products h_o1_quotients h_o1_products_cells f_count a_members a_isMember f_o1_size f_o1_badColumn a_o1_products_cells) H → va_D A (wd_X4_orderFor G h_this h_members h_isMember h_o1 h_o1_products h_o1_quotients h_o1_products_cells f_count a_members a_isMember f_o1_size f_o1_badColumn a_o1_products_cells) → va_S A s.heap H locs → lv_has ls 4 [(0, .ref h_this), (1, .ref h_o1), (2, .int x2)] → W p l e (headSpec wsX4_orderFor rm_X4_orderFor).room s m args below meth c H locs 0 0 (MQ below (qn_QI G (fun (r : Int32) (u : Int32 × (Nat → Int32) × (Nat → Int32)) => post r u.1 u.2.1 u.2.2) (fun u : Int32 × (Nat → Int32) × (Nat → Int32) => wd_X4_orderFor G h_this h_members h_isMember h_o1 h_o1_products h_o1_quotients h_o1_products_cells (u.1) (u.2.1) (u.2.2) f_o1_size f_o1_badColumn a_o1_products_cells) A) args s 0 0 A) (F0 m 44 ls []) := by
  obtain ⟨hx, hb, hml, hown, hts, hr, hlocks⟩ := id C0
  intro fu
  induction fu with
  | zero => intro x2 f_count a_members a_isMember hw; exact hw.elim
  | succ fu ih =>
    intro x2 f_count a_members a_isMember hw H locs ls hP hD hS hl
    refine lv_iload_n hx hb dX4_orderFor_44 rfl (lv_at hl 2 rfl) ?_
    refine lv_aload_n hx hb dX4_orderFor_45 rfl (lv_at hl 0 rfl) ?_
    refine va_get (D := G.1) (ci := 4) (v := .int f_count) (C := RX4) (T := TX4) (N := 3) hx hb hts in_X4_orderFor_X4 hown hE.1 hP 0 rfl rfl 2 (by decide) (hts (.fieldLink RX4 19 "QuandleColorings$InnerGroup" "count" "I") lk_X4_orderFor_19) (fun _ h9 => h9) rfl dX4_orderFor_46 ?_
    refine lv_icmp_ge (tgt := 100) hx hb dX4_orderFor_49 (by decide) (fun c_10 => ?_) (fun c_10 => ?_)
    · have hw := hw.1 c_10
      exact hKc f_count a_members a_isMember hw _ _ _ hP hD hS (lv_sub hl [0] rfl)
    · have hw := hw.2 c_10
      refine lv_iload_n hx hb dX4_orderFor_52 rfl (lv_at hl 2 rfl) ?_
      refine lv_sipush (v := 720) hx hb dX4_orderFor_53 (by decide) ?_
      refine lv_icmp_ge (tgt := 100) hx hb dX4_orderFor_56 (by decide) (fun c_11 => ?_) (fun c_11 => ?_)
      · have hw := hw.1 c_11
        exact hKc f_count a_members a_isMember hw _ _ _ hP hD hS (lv_sub hl [0] rfl)
      · have hw := hw.2 c_11
        refine lv_iconst (v := 0) hx hb dX4_orderFor_59 (by decide) ?_
        refine lv_istore_n (lv' := [(3, .int 0), (0, .ref h_this), (1, .ref h_o1), (2, .int x2)]) hx hb dX4_orderFor_60 rfl hl (by decide) rfl (fun ls hl => ?_)
        obtain ⟨fu_23, hw⟩ := hw
        refine l_X4_orderFor_61 (post := post) C0 hE hA (fun f_count_19 a_members_20 a_isMember_21 hw H locs ls hP hD hS hl => ?_) fu_23 0 f_count a_members a_isMember hw _ _ _ hP hD hS (lv_sub hl [1, 2, 3, 0] rfl)
        obtain ⟨x2_22, ex2_22⟩ : ∃ y : Int32, y = x2 + 1 := ⟨_, rfl⟩
        have hw := hw x2_22 ex2_22
        refine lv_iinc (v := x2_22) (lv' := [(2, .int x2_22), (0, .ref h_this), (1, .ref h_o1)]) hx hb dX4_orderFor_94 hl (k := 2) rfl (by rw [ex2_22]; rfl) (by decide) rfl (fun ls hl => ?_)
        refine lv_goto (tgt := 44) hx hb dX4_orderFor_97 (by decide) ?_
        exact ih x2_22 f_count_19 a_members_20 a_isMember_21 hw _ _ _ hP hD hS (lv_sub hl [1, 2, 0] rfl)
set_option maxHeartbeats 4000000 in
set_option maxRecDepth 100000 in
theorem c_X4_orderFor {l : Launch} (G : qn_G) (sz : Nat) (h_this h_members h_isMember h_o1 h_o1_products h_o1_quotients h_o1_products_cells : Nat) (f_count : Int32) (a_members : Nat → Int32) (a_isMember : Nat → Int32) (f_o1_size : Int32) (f_o1_badColumn : Int32) (a_o1_products_cells : Nat → Int32) {post : Int32 → Int32 → (Nat → Int32) → (Nat → Int32) → Prop} (hw : wp_X4_orderFor post a_members a_isMember f_o1_size a_o1_products_cells) : Met l yX4_orderFor wsX4_orderFor rm_X4_orderFor (qn_PC G [.ref h_this, .ref h_o1] sz (wd_X4_orderFor G h_this h_members h_isMember h_o1 h_o1_products h_o1_quotients h_o1_products_cells f_count a_members a_isMember f_o1_size f_o1_badColumn a_o1_products_cells)) (qn_QI G (fun (r : Int32) (u : Int32 × (Nat → Int32) × (Nat → Int32)) => post r u.1 u.2.1 u.2.2) (fun u : Int32 × (Nat → Int32) × (Nat → Int32) => wd_X4_orderFor G h_this h_members h_isMember h_o1 h_o1_products h_o1_quotients h_o1_products_cells (u.1) (u.2.1) (u.2.2) f_o1_size f_o1_badColumn a_o1_products_cells) (va_A (wd_X4_orderFor G h_this h_members h_isMember h_o1 h_o1_products h_o1_quotients h_o1_products_cells f_count a_members a_isMember f_o1_size f_o1_badColumn a_o1_products_cells) sz)) 0 0 (va_A (wd_X4_orderFor G h_this h_members h_isMember h_o1 h_o1_products h_o1_quotients h_o1_products_cells f_count a_members a_isMember f_o1_size f_o1_badColumn a_o1_products_cells) sz) := by
  refine Met.ofW (cc := cX4_orderFor) (maxL := 4) (ret := (some .int)) (by decide) rfl ?_
  intro p e s m args below meth c s₁ B hml hv
  obtain ⟨rfl, hsz, hP, hE, hD0⟩ := hv
  have C0 : qn_C p m c cX4_orderFor 4 s _ wsX4_orderFor RX4 meth (some .int) := qn_C0 B hml
  obtain ⟨hx, hb, -, hown, hts, hr, hlocks⟩ := id C0
  subst hsz
  have hD := hD0.self (sz := s.heap.size)
  generalize hAe : va_A (wd_X4_orderFor G h_this h_members h_isMember h_o1 h_o1_products h_o1_quotients h_o1_products_cells f_count a_members a_isMember f_o1_size f_o1_badColumn a_o1_products_cells) s.heap.size = A at hD ⊢
  have hA : ∀ q : Nat, s.heap.size ≤ q → A q := fun q h => by rw [← hAe]; exact Or.inr h
  clear hAe
  have hS : va_S A s.heap s.heap [] := va_S.rf
  have hl := lv_entry ([.ref h_this, .ref h_o1]) (n := 4) (Nat.le_of_ble_eq_true rfl)
  rw [lg_entry_eq]
  generalize (lg_sl ([.ref h_this, .ref h_o1]) ++ List.replicate (4 - (lg_sl ([.ref h_this, .ref h_o1])).length) Slot.unset).toArray = ls at hl ⊢
  have hl : lv_has ls 4 [(0, .ref h_this), (1, .ref h_o1)] := hl
  have hP : va_P G.1 vwCl (wd_X4_orderFor G h_this h_members h_isMember h_o1 h_o1_products h_o1_quotients h_o1_products_cells f_count a_members a_isMember f_o1_size f_o1_badColumn a_o1_products_cells) s.heap := hP
  refine lv_iconst (v := 0) hx hb dX4_orderFor_0 (by decide) ?_
  refine lv_istore_n (lv' := [(2, .int 0), (0, .ref h_this), (1, .ref h_o1)]) hx hb dX4_orderFor_1 rfl hl (by decide) rfl (fun ls hl => ?_)
  obtain ⟨fu_28, hw⟩ := hw
  refine l_X4_orderFor_2 (post := post) C0 hE hA (fun a_isMember_4 hw H locs ls hP hD hS hl => ?_) fu_28 0 a_isMember hw _ _ _ hP hD hS (lv_sub hl [1, 2, 0] rfl)
  refine lv_aload_n hx hb dX4_orderFor_22 rfl (lv_at hl 0 rfl) ?_
  refine lv_iconst (v := 0) hx hb dX4_orderFor_23 (by decide) ?_
  refine va_put (D := G.1) (ci := 4) (v := .int 0) (ty := .int) (C := RX4) (T := TX4) (N := 3) hx hb hts in_X4_orderFor_X4 tyX4 tyX4_ok nmX4 hown hE.1 hP hD hS 0 rfl rfl 2 (by decide) (hts (.fieldLink RX4 19 "QuandleColorings$InnerGroup" "count" "I") lk_X4_orderFor_19) (fun _ h9 => h9) rfl (by decide +kernel) rfl rfl (Nat.le_of_ble_eq_true rfl) dX4_orderFor_24 (fun H locs hP hD hS => ?_)
  have hP : va_P G.1 vwCl (wd_X4_orderFor G h_this h_members h_isMember h_o1 h_o1_products h_o1_quotients h_o1_products_cells 0 a_members a_isMember_4 f_o1_size f_o1_badColumn a_o1_products_cells) H := hP
  have hD : va_D A (wd_X4_orderFor G h_this h_members h_isMember h_o1 h_o1_products h_o1_quotients h_o1_products_cells 0 a_members a_isMember_4 f_o1_size f_o1_badColumn a_o1_products_cells) := hD
  refine lv_aload_n hx hb dX4_orderFor_27 rfl (lv_at hl 0 rfl) ?_
  refine lv_aload_n hx hb dX4_orderFor_28 rfl (lv_at hl 1 rfl) ?_
  refine va_getN (D := G.1) (ci := 5) (v := .int f_o1_size) (C := RX5) (T := TX5) (N := 4) hx hb hts in_X4_orderFor_X5 hown hE.1 hP 3 rfl rfl 0 (by decide) (va_Nw.use rfl (qn_f_InnerGroup_23 hE.2.1)) (fun _ h9 => h9) rfl dX4_orderFor_29 ?_
  have hC9 : ([] : List Nat).map (fun i => (wd_X4_orderFor G h_this h_members h_isMember h_o1 h_o1_products h_o1_quotients h_o1_products_cells 0 a_members a_isMember_4 f_o1_size f_o1_badColumn a_o1_products_cells)[i]?) = (wd_X4_identity G).map some := rfl
  refine qn_callI (wd := (fun u : Unit => wd_X4_orderFor G h_this h_members h_isMember h_o1 h_o1_products h_o1_quotients h_o1_products_cells 0 a_members a_isMember_4 f_o1_size f_o1_badColumn a_o1_products_cells)) [] (va_runS (As := [.int f_o1_size]) (rest := [.ref h_this]) ⟨hx, hb, hml, hown, hts⟩ (c_X4_identity G _ f_o1_size hw) (va_cwS 1 hts gX4_orderFor_X4_identity rfl rfl rfl (by decide +kernel) ⟨Nat.le_of_ble_eq_true rfl, Nat.le_of_ble_eq_true rfl⟩) (qn_preS hE hP hD [] hC9 (by decide +kernel)) rfl rfl hl.1 rfl (lv_room (Nat.le_of_ble_eq_true rfl)) dX4_orderFor_32 ⟨Nat.le_of_ble_eq_true rfl, Nat.le_of_ble_eq_true rfl⟩) hP hD hS hA hC9 [none, none, none, none, none, none] (M := 6) rfl (by decide +kernel) (fun _ => rfl) (fun _ => rfl) (fun r_5 _ H locs hw hP hD hS => ?_)
  try dsimp only at hw
  have hP : va_P G.1 vwCl (wd_X4_orderFor G h_this h_members h_isMember h_o1 h_o1_products h_o1_quotients h_o1_products_cells 0 a_members a_isMember_4 f_o1_size f_o1_badColumn a_o1_products_cells) H := hP
  have hD : va_D A (wd_X4_orderFor G h_this h_members h_isMember h_o1 h_o1_products h_o1_quotients h_o1_products_cells 0 a_members a_isMember_4 f_o1_size f_o1_badColumn a_o1_products_cells) := hD
  refine lv_aload_n hx hb dX4_orderFor_35 rfl (lv_at hl 1 rfl) ?_
  refine va_getN (D := G.1) (ci := 5) (v := .int f_o1_size) (C := RX5) (T := TX5) (N := 4) hx hb hts in_X4_orderFor_X5 hown hE.1 hP 3 rfl rfl 0 (by decide) (va_Nw.use rfl (qn_f_InnerGroup_23 hE.2.1)) (fun _ h9 => h9) rfl dX4_orderFor_36 ?_
  have hC9 : ([0, 1, 2]).map (fun i => (wd_X4_orderFor G h_this h_members h_isMember h_o1 h_o1_products h_o1_quotients h_o1_products_cells 0 a_members a_isMember_4 f_o1_size f_o1_badColumn a_o1_products_cells)[i]?) = (wd_X4_include G h_this h_members h_isMember 0 a_members a_isMember_4).map some := rfl
  refine qn_callV (wd := (fun u : Int32 × (Nat → Int32) × (Nat → Int32) => wd_X4_orderFor G h_this h_members h_isMember h_o1 h_o1_products h_o1_quotients h_o1_products_cells (u.1) (u.2.1) (u.2.2) f_o1_size f_o1_badColumn a_o1_products_cells)) [0, 1, 2] (va_runV (As := [.int r_5, .int f_o1_size]) (rest := []) ⟨hx, hb, hml, hown, hts⟩ (c_X4_include G _ h_this h_members h_isMember 0 a_members a_isMember_4 r_5 f_o1_size hw) (cwV 2 hts gX4_orderFor_X4_include rfl rfl rfl (by decide +kernel) ⟨Nat.le_of_ble_eq_true rfl, Nat.le_of_ble_eq_true rfl⟩) (qn_preV hE hP hD [0, 1, 2] hC9 (by decide +kernel) (ci := 4) rfl rfl) rfl rfl hl.1 rfl (lv_room (Nat.le_of_ble_eq_true rfl)) dX4_orderFor_39 ⟨Nat.le_of_ble_eq_true rfl, Nat.le_of_ble_eq_true rfl⟩) hP hD hS hA hC9 [some 0, some 1, some 2, none, none, none] (M := 6) rfl (by decide +kernel) (fun _ => rfl) (fun _ => rfl) (fun u_9 H locs hw hP hD hS => ?_)
  obtain ⟨f_count_6, a_members_7, a_isMember_8⟩ := u_9
  try dsimp only at hw
  have hP : va_P G.1 vwCl (wd_X4_orderFor G h_this h_members h_isMember h_o1 h_o1_products h_o1_quotients h_o1_products_cells f_count_6 a_members_7 a_isMember_8 f_o1_size f_o1_badColumn a_o1_products_cells) H := hP
  have hD : va_D A (wd_X4_orderFor G h_this h_members h_isMember h_o1 h_o1_products h_o1_quotients h_o1_products_cells f_count_6 a_members_7 a_isMember_8 f_o1_size f_o1_badColumn a_o1_products_cells) := hD
  refine lv_iconst (v := 0) hx hb dX4_orderFor_42 (by decide) ?_
  refine lv_istore_n (lv' := [(2, .int 0), (0, .ref h_this), (1, .ref h_o1)]) hx hb dX4_orderFor_43 rfl hl (by decide) rfl (fun ls hl => ?_)
  obtain ⟨fu_27, hw⟩ := hw
  refine l_X4_orderFor_44 (post := post) C0 hE hA (fun f_count_24 a_members_25 a_isMember_26 hw H locs ls hP hD hS hl => ?_) fu_27 0 f_count_6 a_members_7 a_isMember_8 hw _ _ _ hP hD hS (lv_sub hl [1, 2, 0] rfl)
  refine lv_aload_n hx hb dX4_orderFor_100 rfl (lv_at hl 0 rfl) ?_
  refine va_get (D := G.1) (ci := 4) (v := .int f_count_24) (C := RX4) (T := TX4) (N := 3) hx hb hts in_X4_orderFor_X4 hown hE.1 hP 0 rfl rfl 2 (by decide) (hts (.fieldLink RX4 19 "QuandleColorings$InnerGroup" "count" "I") lk_X4_orderFor_19) (fun _ h9 => h9) rfl dX4_orderFor_101 ?_
  exact W.iret (v := f_count_24) hx hb hr (fun t ht hW => ⟨⟨f_count_24, (f_count_24, a_members_25, a_isMember_26), rfl, hw, by rw [ht]; exact hP, hD⟩, hS.F ht⟩) hS.2.2 dX4_orderFor_104
-- QuandleColorings$Operation.hasElement(I)Z
abbrev rm_X5_hasElement : Room := { frames := 0, cells := 0, slots := 0, locals := 0 }
abbrev wd_X5_hasElement (G : qn_G) (h_this h_products h_quotients : Nat) (f_size : Int32) (f_badColumn : Int32) : va_W := [(h_this, .inr (5, [.int f_size, .ref h_products, .ref h_quotients, .int f_badColumn]))]
theorem in_X5_hasElement_X5 : ∀ w ∈ u_ws RX5 TX5 4, w ∈ wsX5_hasElement := by decide +kernel
theorem lk_X5_hasElement_9 : Cond.fieldLink RX5 9 "QuandleColorings$Operation" "size" "I" ∈ wsX5_hasElement := by decide +kernel
def wp_X5_hasElement (post : Int32 → Prop) (f_size : Int32) (x1 : Int32) : Prop := ((x1 < 0 → (post 0)) ∧ (¬ x1 < 0 → ((f_size ≤ x1 → (post 0)) ∧ (¬ f_size ≤ x1 → (post 1)))))
set_option maxHeartbeats 4000000 in
set_option maxRecDepth 100000 in
theorem c_X5_hasElement {l : Launch} (G : qn_G) (sz : Nat) (h_this h_products h_quotients : Nat) (f_size : Int32) (f_badColumn : Int32) (x1 : Int32) {post : Int32 → Prop} (hw : wp_X5_hasElement post f_size x1) : Met l yX5_hasElement wsX5_hasElement rm_X5_hasElement (qn_PC G [.ref h_this, .int x1] sz (wd_X5_hasElement G h_this h_products h_quotients f_size f_badColumn)) (qn_QI G (fun (r : Int32) (u : Unit) => post r) (fun u : Unit => wd_X5_hasElement G h_this h_products h_quotients f_size f_badColumn) (va_A (wd_X5_hasElement G h_this h_products h_quotients f_size f_badColumn) sz)) 0 0 (va_A (wd_X5_hasElement G h_this h_products h_quotients f_size f_badColumn) sz) := by
  refine Met.ofW (cc := cX5_hasElement) (maxL := 2) (ret := (some .boolean)) (by decide) rfl ?_
  intro p e s m args below meth c s₁ B hml hv
  obtain ⟨rfl, hsz, hP, hE, hD0⟩ := hv
  have C0 : qn_C p m c cX5_hasElement 2 s _ wsX5_hasElement RX5 meth (some .boolean) := qn_C0 B hml
  obtain ⟨hx, hb, -, hown, hts, hr, hlocks⟩ := id C0
  subst hsz
  have hD := hD0.self (sz := s.heap.size)
  generalize hAe : va_A (wd_X5_hasElement G h_this h_products h_quotients f_size f_badColumn) s.heap.size = A at hD ⊢
  have hA : ∀ q : Nat, s.heap.size ≤ q → A q := fun q h => by rw [← hAe]; exact Or.inr h
  clear hAe
  have hS : va_S A s.heap s.heap [] := va_S.rf
  have hl := lv_entry ([.ref h_this, .int x1]) (n := 2) (Nat.le_of_ble_eq_true rfl)
  rw [lg_entry_eq]
  generalize (lg_sl ([.ref h_this, .int x1]) ++ List.replicate (2 - (lg_sl ([.ref h_this, .int x1])).length) Slot.unset).toArray = ls at hl ⊢
  have hl : lv_has ls 2 [(0, .ref h_this), (1, .int x1)] := hl
  have hP : va_P G.1 vwCl (wd_X5_hasElement G h_this h_products h_quotients f_size f_badColumn) s.heap := hP
  refine lv_iload_n hx hb dX5_hasElement_0 rfl (lv_at hl 1 rfl) ?_
  refine lv_if_lt (tgt := 16) hx hb dX5_hasElement_1 (by decide) (fun c_1 => ?_) (fun c_1 => ?_)
  · have hw := hw.1 c_1
    refine lv_iconst (v := 0) hx hb dX5_hasElement_16 (by decide) ?_
    exact W.zret (v := 0) hx hb hr (by decide) (fun t ht hW => ⟨⟨0, (), rfl, hw, by rw [ht]; exact hP, hD⟩, hS.F ht⟩) hS.2.2 dX5_hasElement_17
  · have hw := hw.2 c_1
    refine lv_iload_n hx hb dX5_hasElement_4 rfl (lv_at hl 1 rfl) ?_
    refine lv_aload_n hx hb dX5_hasElement_5 rfl (lv_at hl 0 rfl) ?_
    refine va_get (D := G.1) (ci := 5) (v := .int f_size) (C := RX5) (T := TX5) (N := 4) hx hb hts in_X5_hasElement_X5 hown hE.1 hP 0 rfl rfl 0 (by decide) (hts (.fieldLink RX5 9 "QuandleColorings$Operation" "size" "I") lk_X5_hasElement_9) (fun _ h9 => h9) rfl dX5_hasElement_6 ?_
    refine lv_icmp_ge (tgt := 16) hx hb dX5_hasElement_9 (by decide) (fun c_2 => ?_) (fun c_2 => ?_)
    · have hw := hw.1 c_2
      refine lv_iconst (v := 0) hx hb dX5_hasElement_16 (by decide) ?_
      exact W.zret (v := 0) hx hb hr (by decide) (fun t ht hW => ⟨⟨0, (), rfl, hw, by rw [ht]; exact hP, hD⟩, hS.F ht⟩) hS.2.2 dX5_hasElement_17
    · have hw := hw.2 c_2
      refine lv_iconst (v := 1) hx hb dX5_hasElement_12 (by decide) ?_
      refine lv_goto (tgt := 17) hx hb dX5_hasElement_13 (by decide) ?_
      exact W.zret (v := 1) hx hb hr (by decide) (fun t ht hW => ⟨⟨1, (), rfl, hw, by rw [ht]; exact hP, hD⟩, hS.F ht⟩) hS.2.2 dX5_hasElement_17
-- QuandleColorings$Operation.hasElements(II)Z
abbrev rm_X5_hasElements : Room := { frames := 1, cells := 0, slots := 0, locals := 21 }
abbrev wd_X5_hasElements (G : qn_G) (h_this h_products h_quotients : Nat) (f_size : Int32) (f_badColumn : Int32) : va_W := [(h_this, .inr (5, [.int f_size, .ref h_products, .ref h_quotients, .int f_badColumn]))]
def wp_X5_hasElements (post : Int32 → Prop) (f_size : Int32) (x1 : Int32) (x2 : Int32) : Prop := (wp_X5_hasElement (fun (r_1 : Int32) => ((r_1 = 0 → (post 0)) ∧ (¬ r_1 = 0 → (wp_X5_hasElement (fun (r_3 : Int32) => ((r_3 = 0 → (post 0)) ∧ (¬ r_3 = 0 → (post 1)))) f_size x2)))) f_size x1)
set_option maxHeartbeats 4000000 in
set_option maxRecDepth 100000 in
theorem c_X5_hasElements {l : Launch} (G : qn_G) (sz : Nat) (h_this h_products h_quotients : Nat) (f_size : Int32) (f_badColumn : Int32) (x1 : Int32) (x2 : Int32) {post : Int32 → Prop} (hw : wp_X5_hasElements post f_size x1 x2) : Met l yX5_hasElements wsX5_hasElements rm_X5_hasElements (qn_PC G [.ref h_this, .int x1, .int x2] sz (wd_X5_hasElements G h_this h_products h_quotients f_size f_badColumn)) (qn_QI G (fun (r : Int32) (u : Unit) => post r) (fun u : Unit => wd_X5_hasElements G h_this h_products h_quotients f_size f_badColumn) (va_A (wd_X5_hasElements G h_this h_products h_quotients f_size f_badColumn) sz)) 0 0 (va_A (wd_X5_hasElements G h_this h_products h_quotients f_size f_badColumn) sz) := by
  refine Met.ofW (cc := cX5_hasElements) (maxL := 3) (ret := (some .boolean)) (by decide) rfl ?_
  intro p e s m args below meth c s₁ B hml hv
  obtain ⟨rfl, hsz, hP, hE, hD0⟩ := hv
  have C0 : qn_C p m c cX5_hasElements 3 s _ wsX5_hasElements RX5 meth (some .boolean) := qn_C0 B hml
  obtain ⟨hx, hb, -, hown, hts, hr, hlocks⟩ := id C0
  subst hsz
  have hD := hD0.self (sz := s.heap.size)
  generalize hAe : va_A (wd_X5_hasElements G h_this h_products h_quotients f_size f_badColumn) s.heap.size = A at hD ⊢
  have hA : ∀ q : Nat, s.heap.size ≤ q → A q := fun q h => by rw [← hAe]; exact Or.inr h
  clear hAe
  have hS : va_S A s.heap s.heap [] := va_S.rf
  have hl := lv_entry ([.ref h_this, .int x1, .int x2]) (n := 3) (Nat.le_of_ble_eq_true rfl)
  rw [lg_entry_eq]
  generalize (lg_sl ([.ref h_this, .int x1, .int x2]) ++ List.replicate (3 - (lg_sl ([.ref h_this, .int x1, .int x2])).length) Slot.unset).toArray = ls at hl ⊢
  have hl : lv_has ls 3 [(0, .ref h_this), (1, .int x1), (2, .int x2)] := hl
  have hP : va_P G.1 vwCl (wd_X5_hasElements G h_this h_products h_quotients f_size f_badColumn) s.heap := hP
  refine lv_aload_n hx hb dX5_hasElements_0 rfl (lv_at hl 0 rfl) ?_
  refine lv_iload_n hx hb dX5_hasElements_1 rfl (lv_at hl 1 rfl) ?_
  have hC9 : ([0]).map (fun i => (wd_X5_hasElements G h_this h_products h_quotients f_size f_badColumn)[i]?) = (wd_X5_hasElement G h_this h_products h_quotients f_size f_badColumn).map some := rfl
  refine qn_callI (wd := (fun u : Unit => wd_X5_hasElements G h_this h_products h_quotients f_size f_badColumn)) [0] (va_runV (As := [.int x1]) (rest := []) ⟨hx, hb, hml, hown, hts⟩ (c_X5_hasElement G _ h_this h_products h_quotients f_size f_badColumn x1 hw) (cwV 1 hts gX5_hasElements_X5_hasElement rfl rfl rfl (by decide +kernel) ⟨Nat.le_of_ble_eq_true rfl, Nat.le_of_ble_eq_true rfl⟩) (qn_preV hE hP hD [0] hC9 (by decide +kernel) (ci := 5) rfl rfl) rfl rfl hl.1 rfl (lv_room (Nat.le_of_ble_eq_true rfl)) dX5_hasElements_2 ⟨Nat.le_of_ble_eq_true rfl, Nat.le_of_ble_eq_true rfl⟩) hP hD hS hA hC9 [some 0] (M := 1) rfl (by decide +kernel) (fun _ => rfl) (fun _ => rfl) (fun r_1 _ H locs hw hP hD hS => ?_)
  try dsimp only at hw
  have hP : va_P G.1 vwCl (wd_X5_hasElements G h_this h_products h_quotients f_size f_badColumn) H := hP
  have hD : va_D A (wd_X5_hasElements G h_this h_products h_quotients f_size f_badColumn) := hD
  refine lv_if_eq (tgt := 20) hx hb dX5_hasElements_5 (by decide) (fun c_2 => ?_) (fun c_2 => ?_)
  · have hw := hw.1 c_2
    refine lv_iconst (v := 0) hx hb dX5_hasElements_20 (by decide) ?_
    exact W.zret (v := 0) hx hb hr (by decide) (fun t ht hW => ⟨⟨0, (), rfl, hw, by rw [ht]; exact hP, hD⟩, hS.F ht⟩) hS.2.2 dX5_hasElements_21
  · have hw := hw.2 c_2
    refine lv_aload_n hx hb dX5_hasElements_8 rfl (lv_at hl 0 rfl) ?_
    refine lv_iload_n hx hb dX5_hasElements_9 rfl (lv_at hl 2 rfl) ?_
    have hC9 : ([0]).map (fun i => (wd_X5_hasElements G h_this h_products h_quotients f_size f_badColumn)[i]?) = (wd_X5_hasElement G h_this h_products h_quotients f_size f_badColumn).map some := rfl
    refine qn_callI (wd := (fun u : Unit => wd_X5_hasElements G h_this h_products h_quotients f_size f_badColumn)) [0] (va_runV (As := [.int x2]) (rest := []) ⟨hx, hb, hml, hown, hts⟩ (c_X5_hasElement G _ h_this h_products h_quotients f_size f_badColumn x2 hw) (cwV 1 hts gX5_hasElements_X5_hasElement rfl rfl rfl (by decide +kernel) ⟨Nat.le_of_ble_eq_true rfl, Nat.le_of_ble_eq_true rfl⟩) (qn_preV hE hP hD [0] hC9 (by decide +kernel) (ci := 5) rfl rfl) rfl rfl hl.1 rfl (lv_room (Nat.le_of_ble_eq_true rfl)) dX5_hasElements_10 ⟨Nat.le_of_ble_eq_true rfl, Nat.le_of_ble_eq_true rfl⟩) hP hD hS hA hC9 [some 0] (M := 1) rfl (by decide +kernel) (fun _ => rfl) (fun _ => rfl) (fun r_3 _ H locs hw hP hD hS => ?_)
    try dsimp only at hw
    have hP : va_P G.1 vwCl (wd_X5_hasElements G h_this h_products h_quotients f_size f_badColumn) H := hP
    have hD : va_D A (wd_X5_hasElements G h_this h_products h_quotients f_size f_badColumn) := hD
    refine lv_if_eq (tgt := 20) hx hb dX5_hasElements_13 (by decide) (fun c_4 => ?_) (fun c_4 => ?_)
    · have hw := hw.1 c_4
      refine lv_iconst (v := 0) hx hb dX5_hasElements_20 (by decide) ?_
      exact W.zret (v := 0) hx hb hr (by decide) (fun t ht hW => ⟨⟨0, (), rfl, hw, by rw [ht]; exact hP, hD⟩, hS.F ht⟩) hS.2.2 dX5_hasElements_21
    · have hw := hw.2 c_4
      refine lv_iconst (v := 1) hx hb dX5_hasElements_16 (by decide) ?_
      refine lv_goto (tgt := 21) hx hb dX5_hasElements_17 (by decide) ?_
      exact W.zret (v := 1) hx hb hr (by decide) (fun t ht hW => ⟨⟨1, (), rfl, hw, by rw [ht]; exact hP, hD⟩, hS.F ht⟩) hS.2.2 dX5_hasElements_21
-- QuandleColorings$Operation.isInvertible()Z
abbrev rm_X5_isInvertible : Room := { frames := 0, cells := 0, slots := 0, locals := 0 }
abbrev wd_X5_isInvertible (G : qn_G) (h_this h_products h_quotients : Nat) (f_size : Int32) (f_badColumn : Int32) : va_W := [(h_this, .inr (5, [.int f_size, .ref h_products, .ref h_quotients, .int f_badColumn]))]
theorem in_X5_isInvertible_X5 : ∀ w ∈ u_ws RX5 TX5 4, w ∈ wsX5_isInvertible := by decide +kernel
theorem lk_X5_isInvertible_25 : Cond.fieldLink RX5 25 "QuandleColorings$Operation" "badColumn" "I" ∈ wsX5_isInvertible := by decide +kernel
def wp_X5_isInvertible (post : Int32 → Prop) (f_badColumn : Int32) : Prop := ((¬ f_badColumn = (-4) → (post 0)) ∧ (f_badColumn = (-4) → (post 1)))
set_option maxHeartbeats 4000000 in
set_option maxRecDepth 100000 in
theorem c_X5_isInvertible {l : Launch} (G : qn_G) (sz : Nat) (h_this h_products h_quotients : Nat) (f_size : Int32) (f_badColumn : Int32) {post : Int32 → Prop} (hw : wp_X5_isInvertible post f_badColumn) : Met l yX5_isInvertible wsX5_isInvertible rm_X5_isInvertible (qn_PC G [.ref h_this] sz (wd_X5_isInvertible G h_this h_products h_quotients f_size f_badColumn)) (qn_QI G (fun (r : Int32) (u : Unit) => post r) (fun u : Unit => wd_X5_isInvertible G h_this h_products h_quotients f_size f_badColumn) (va_A (wd_X5_isInvertible G h_this h_products h_quotients f_size f_badColumn) sz)) 0 0 (va_A (wd_X5_isInvertible G h_this h_products h_quotients f_size f_badColumn) sz) := by
  refine Met.ofW (cc := cX5_isInvertible) (maxL := 1) (ret := (some .boolean)) (by decide) rfl ?_
  intro p e s m args below meth c s₁ B hml hv
  obtain ⟨rfl, hsz, hP, hE, hD0⟩ := hv
  have C0 : qn_C p m c cX5_isInvertible 1 s _ wsX5_isInvertible RX5 meth (some .boolean) := qn_C0 B hml
  obtain ⟨hx, hb, -, hown, hts, hr, hlocks⟩ := id C0
  subst hsz
  have hD := hD0.self (sz := s.heap.size)
  generalize hAe : va_A (wd_X5_isInvertible G h_this h_products h_quotients f_size f_badColumn) s.heap.size = A at hD ⊢
  have hA : ∀ q : Nat, s.heap.size ≤ q → A q := fun q h => by rw [← hAe]; exact Or.inr h
  clear hAe
  have hS : va_S A s.heap s.heap [] := va_S.rf
  have hl := lv_entry ([.ref h_this]) (n := 1) (Nat.le_of_ble_eq_true rfl)
  rw [lg_entry_eq]
  generalize (lg_sl ([.ref h_this]) ++ List.replicate (1 - (lg_sl ([.ref h_this])).length) Slot.unset).toArray = ls at hl ⊢
  have hl : lv_has ls 1 [(0, .ref h_this)] := hl
  have hP : va_P G.1 vwCl (wd_X5_isInvertible G h_this h_products h_quotients f_size f_badColumn) s.heap := hP
  refine lv_aload_n hx hb dX5_isInvertible_0 rfl (lv_at hl 0 rfl) ?_
  refine va_get (D := G.1) (ci := 5) (v := .int f_badColumn) (C := RX5) (T := TX5) (N := 4) hx hb hts in_X5_isInvertible_X5 hown hE.1 hP 0 rfl rfl 3 (by decide) (hts (.fieldLink RX5 25 "QuandleColorings$Operation" "badColumn" "I") lk_X5_isInvertible_25) (fun _ h9 => h9) rfl dX5_isInvertible_1 ?_
  refine lv_bipush (v := (-4)) hx hb dX5_isInvertible_4 (by decide) ?_
  refine lv_icmp_ne (tgt := 13) hx hb dX5_isInvertible_6 (by decide) (fun c_1 => ?_) (fun c_1 => ?_)
  · have hw := hw.1 c_1
    refine lv_iconst (v := 0) hx hb dX5_isInvertible_13 (by decide) ?_
    exact W.zret (v := 0) hx hb hr (by decide) (fun t ht hW => ⟨⟨0, (), rfl, hw, by rw [ht]; exact hP, hD⟩, hS.F ht⟩) hS.2.2 dX5_isInvertible_14
  · have hw := hw.2 c_1
    refine lv_iconst (v := 1) hx hb dX5_isInvertible_9 (by decide) ?_
    refine lv_goto (tgt := 14) hx hb dX5_isInvertible_10 (by decide) ?_
    exact W.zret (v := 1) hx hb hr (by decide) (fun t ht hW => ⟨⟨1, (), rfl, hw, by rw [ht]; exact hP, hD⟩, hS.F ht⟩) hS.2.2 dX5_isInvertible_14
-- QuandleColorings$Operation.divide(II)I
abbrev rm_X5_divide : Room := { frames := 2, cells := 0, slots := 0, locals := 43 }
abbrev wd_X5_divide (G : qn_G) (h_this h_products h_quotients h_quotients_cells : Nat) (f_size : Int32) (f_badColumn : Int32) (a_quotients_cells : Nat → Int32) : va_W := [(h_this, .inr (5, [.int f_size, .ref h_products, .ref h_quotients, .int f_badColumn])), (h_quotients, .inr (2, [.ref h_quotients_cells])), (h_quotients_cells, .inl (G.2.1, 36, .inl a_quotients_cells))]
theorem in_X5_divide_X5 : ∀ w ∈ u_ws RX5 TX5 4, w ∈ wsX5_divide := by decide +kernel
theorem lk_X5_divide_22 : Cond.fieldLink RX5 22 "QuandleColorings$Operation" "quotients" "LQuandleColorings$Grid;" ∈ wsX5_divide := by decide +kernel
def wp_X5_divide (post : Int32 → Prop) (a_quotients_cells : Nat → Int32) (x1 : Int32) (x2 : Int32) : Prop := (wp_X2_get (fun (r_1 : Int32) => (post r_1)) a_quotients_cells x1 x2)
set_option maxHeartbeats 4000000 in
set_option maxRecDepth 100000 in
theorem c_X5_divide {l : Launch} (G : qn_G) (sz : Nat) (h_this h_products h_quotients h_quotients_cells : Nat) (f_size : Int32) (f_badColumn : Int32) (a_quotients_cells : Nat → Int32) (x1 : Int32) (x2 : Int32) {post : Int32 → Prop} (hw : wp_X5_divide post a_quotients_cells x1 x2) : Met l yX5_divide wsX5_divide rm_X5_divide (qn_PC G [.ref h_this, .int x1, .int x2] sz (wd_X5_divide G h_this h_products h_quotients h_quotients_cells f_size f_badColumn a_quotients_cells)) (qn_QI G (fun (r : Int32) (u : Unit) => post r) (fun u : Unit => wd_X5_divide G h_this h_products h_quotients h_quotients_cells f_size f_badColumn a_quotients_cells) (va_A (wd_X5_divide G h_this h_products h_quotients h_quotients_cells f_size f_badColumn a_quotients_cells) sz)) 0 0 (va_A (wd_X5_divide G h_this h_products h_quotients h_quotients_cells f_size f_badColumn a_quotients_cells) sz) := by
  refine Met.ofW (cc := cX5_divide) (maxL := 3) (ret := (some .int)) (by decide) rfl ?_
  intro p e s m args below meth c s₁ B hml hv
  obtain ⟨rfl, hsz, hP, hE, hD0⟩ := hv
  have C0 : qn_C p m c cX5_divide 3 s _ wsX5_divide RX5 meth (some .int) := qn_C0 B hml
  obtain ⟨hx, hb, -, hown, hts, hr, hlocks⟩ := id C0
  subst hsz
  have hD := hD0.self (sz := s.heap.size)
  generalize hAe : va_A (wd_X5_divide G h_this h_products h_quotients h_quotients_cells f_size f_badColumn a_quotients_cells) s.heap.size = A at hD ⊢
  have hA : ∀ q : Nat, s.heap.size ≤ q → A q := fun q h => by rw [← hAe]; exact Or.inr h
  clear hAe
  have hS : va_S A s.heap s.heap [] := va_S.rf
  have hl := lv_entry ([.ref h_this, .int x1, .int x2]) (n := 3) (Nat.le_of_ble_eq_true rfl)
  rw [lg_entry_eq]
  generalize (lg_sl ([.ref h_this, .int x1, .int x2]) ++ List.replicate (3 - (lg_sl ([.ref h_this, .int x1, .int x2])).length) Slot.unset).toArray = ls at hl ⊢
  have hl : lv_has ls 3 [(0, .ref h_this), (1, .int x1), (2, .int x2)] := hl
  have hP : va_P G.1 vwCl (wd_X5_divide G h_this h_products h_quotients h_quotients_cells f_size f_badColumn a_quotients_cells) s.heap := hP
  refine lv_aload_n hx hb dX5_divide_0 rfl (lv_at hl 0 rfl) ?_
  refine va_get (D := G.1) (ci := 5) (v := .ref h_quotients) (C := RX5) (T := TX5) (N := 4) hx hb hts in_X5_divide_X5 hown hE.1 hP 0 rfl rfl 2 (by decide) (hts (.fieldLink RX5 22 "QuandleColorings$Operation" "quotients" "LQuandleColorings$Grid;") lk_X5_divide_22) (fun _ h9 => h9) rfl dX5_divide_1 ?_
  refine lv_iload_n hx hb dX5_divide_4 rfl (lv_at hl 1 rfl) ?_
  refine lv_iload_n hx hb dX5_divide_5 rfl (lv_at hl 2 rfl) ?_
  have hC9 : ([1, 2]).map (fun i => (wd_X5_divide G h_this h_products h_quotients h_quotients_cells f_size f_badColumn a_quotients_cells)[i]?) = (wd_X2_get G h_quotients h_quotients_cells a_quotients_cells).map some := rfl
  refine qn_callI (wd := (fun u : Unit => wd_X5_divide G h_this h_products h_quotients h_quotients_cells f_size f_badColumn a_quotients_cells)) [1, 2] (va_runV (As := [.int x1, .int x2]) (rest := []) ⟨hx, hb, hml, hown, hts⟩ (c_X2_get G _ h_quotients h_quotients_cells a_quotients_cells x1 x2 hw) (cwV 2 hts gX5_divide_X2_get rfl rfl rfl (by decide +kernel) ⟨Nat.le_of_ble_eq_true rfl, Nat.le_of_ble_eq_true rfl⟩) (qn_preV hE hP hD [1, 2] hC9 (by decide +kernel) (ci := 2) rfl rfl) rfl rfl hl.1 rfl (lv_room (Nat.le_of_ble_eq_true rfl)) dX5_divide_6 ⟨Nat.le_of_ble_eq_true rfl, Nat.le_of_ble_eq_true rfl⟩) hP hD hS hA hC9 [none, some 0, some 1] (M := 3) rfl (by decide +kernel) (fun _ => rfl) (fun _ => rfl) (fun r_1 _ H locs hw hP hD hS => ?_)
  try dsimp only at hw
  have hP : va_P G.1 vwCl (wd_X5_divide G h_this h_products h_quotients h_quotients_cells f_size f_badColumn a_quotients_cells) H := hP
  have hD : va_D A (wd_X5_divide G h_this h_products h_quotients h_quotients_cells f_size f_badColumn a_quotients_cells) := hD
  exact W.iret (v := r_1) hx hb hr (fun t ht hW => ⟨⟨r_1, (), rfl, hw, by rw [ht]; exact hP, hD⟩, hS.F ht⟩) hS.2.2 dX5_divide_9
-- QuandleColorings$Operation.invertColumn(I)Z
abbrev rm_X5_invertColumn : Room := { frames := 2, cells := 0, slots := 0, locals := 44 }
abbrev wd_X5_invertColumn (G : qn_G) (h_this h_products h_quotients h_products_cells h_quotients_cells : Nat) (f_size : Int32) (f_badColumn : Int32) (a_products_cells : Nat → Int32) (a_quotients_cells : Nat → Int32) : va_W := [(h_this, .inr (5, [.int f_size, .ref h_products, .ref h_quotients, .int f_badColumn])), (h_products, .inr (2, [.ref h_products_cells])), (h_products_cells, .inl (G.2.1, 36, .inl a_products_cells)), (h_quotients, .inr (2, [.ref h_quotients_cells])), (h_quotients_cells, .inl (G.2.1, 36, .inl a_quotients_cells))]
theorem in_X5_invertColumn_X5 : ∀ w ∈ u_ws RX5 TX5 4, w ∈ wsX5_invertColumn := by decide +kernel
theorem lk_X5_invertColumn_18 : Cond.fieldLink RX5 18 "QuandleColorings$Operation" "products" "LQuandleColorings$Grid;" ∈ wsX5_invertColumn := by decide +kernel
theorem lk_X5_invertColumn_22 : Cond.fieldLink RX5 22 "QuandleColorings$Operation" "quotients" "LQuandleColorings$Grid;" ∈ wsX5_invertColumn := by decide +kernel
theorem lk_X5_invertColumn_9 : Cond.fieldLink RX5 9 "QuandleColorings$Operation" "size" "I" ∈ wsX5_invertColumn := by decide +kernel
def wp_X5_invertColumn_L4 (KL4 : Int32 → (Nat → Int32) → Prop) (x1 : Int32) (f_size : Int32) (a_products_cells : Nat → Int32) : Nat → Int32 → Int32 → (Nat → Int32) → Prop
  | 0 => fun _ _ _ => False
  | fu + 1 => fun x2 x3 a_quotients_cells => ((f_size ≤ x3 → (KL4 x2 a_quotients_cells)) ∧ (¬ f_size ≤ x3 → (wp_X2_get (fun (r_2 : Int32) => (wp_X2_put (fun (a_quotients_cells_3 : Nat → Int32) => (∀ x2_4 : Int32, x2_4 = x2 ||| (1 <<< (r_2 &&& 31)) → (∀ x3_5 : Int32, x3_5 = x3 + 1 → ((wp_X5_invertColumn_L4 KL4 x1 f_size a_products_cells fu) x2_4 x3_5 a_quotients_cells_3)))) a_quotients_cells r_2 x1 x3)) a_products_cells x3 x1)))
def wp_X5_invertColumn (post : Int32 → (Nat → Int32) → Prop) (f_size : Int32) (a_products_cells : Nat → Int32) (a_quotients_cells : Nat → Int32) (x1 : Int32) : Prop := (∃ fu_9 : Nat, wp_X5_invertColumn_L4 (fun (x2_6 : Int32) (a_quotients_cells_7 : Nat → Int32) => ((¬ x2_6 = ((1 <<< (f_size &&& 31)) - 1) → (post 0 a_quotients_cells_7)) ∧ (x2_6 = ((1 <<< (f_size &&& 31)) - 1) → (post 1 a_quotients_cells_7)))) x1 f_size a_products_cells fu_9 0 0 a_quotients_cells)
set_option maxHeartbeats 4000000 in
set_option maxRecDepth 100000 in
theorem l_X5_invertColumn_4 {p : Program} {l : Launch} {e : Env} {s : State} {m : MethodId} {args : Array Value} {below : List Frame} {meth : Method} {c : Code} {G : qn_G} {A : Nat → Prop} {h_this h_products h_quotients h_products_cells h_quotients_cells : Nat} {f_size : Int32} {f_badColumn : Int32} {a_products_cells : Nat → Int32} {x1 : Int32} {post : Int32 → (Nat → Int32) → Prop} {KL4 : Int32 → (Nat → Int32) → Prop} (C0 : qn_C p m c cX5_invertColumn 5 s args wsX5_invertColumn RX5 meth (some .boolean)) (hE : qn_EV G s) (hA : ∀ q, s.heap.size ≤ q → A q) (hKc : ∀ (x2 : Int32) (a_quotients_cells : Nat → Int32), KL4 x2 a_quotients_cells → ∀ (H : Heap) (locs : List Loc) (ls : Array Slot), va_P G.1 vwCl (wd_X5_invertColumn G h_this h_products h_quotients h_products_cells h_quotients_cells f_size f_badColumn a_products_cells a_quotients_cells) H → va_D A (wd_X5_invertColumn G h_this h_products h_quotients h_products_cells h_quotients_cells f_size f_badColumn a_products_cells a_quotients_cells) → va_S A s.heap H locs → lv_has ls 5 [(0, .ref h_this), (2, .int x2)] → W p l e (headSpec wsX5_invertColumn rm_X5_invertColumn).room s m args below meth c H locs 0 0 (MQ below (qn_QI G (fun (r : Int32) (u : (Nat → Int32)) => post r u) (fun u : (Nat → Int32) => wd_X5_invertColumn G h_this h_products h_quotients h_products_cells h_quotients_cells f_size f_badColumn a_products_cells u) A) args s 0 0 A) (F0 m 47 ls [])) :
    ∀ (fu : Nat) (x2 : Int32) (x3 : Int32) (a_quotients_cells : Nat → Int32), wp_X5_invertColumn_L4 KL4 x1 f_size a_products_cells fu x2 x3 a_quotients_cells → ∀ (H : Heap) (locs : List Loc) (ls : Array Slot), va_P G.1 vwCl (wd_X5_invertColumn G h_this h_products h_quotients h_products_cells h_quotients_cells f_size f_badColumn a_products_cells a_quotients_cells) H → va_D A (wd_X5_invertColumn G h_this h_products h_quotients h_products_cells h_quotients_cells f_size f_badColumn a_products_cells a_quotients_cells) → va_S A s.heap H locs → lv_has ls 5 [(0, .ref h_this), (1, .int x1), (2, .int x2), (3, .int x3)] → W p l e (headSpec wsX5_invertColumn rm_X5_invertColumn).room s m args below meth c H locs 0 0 (MQ below (qn_QI G (fun (r : Int32) (u : (Nat → Int32)) => post r u) (fun u : (Nat → Int32) => wd_X5_invertColumn G h_this h_products h_quotients h_products_cells h_quotients_cells f_size f_badColumn a_products_cells u) A) args s 0 0 A) (F0 m 4 ls []) := by
  obtain ⟨hx, hb, hml, hown, hts, hr, hlocks⟩ := id C0
  intro fu
  induction fu with
  | zero => intro x2 x3 a_quotients_cells hw; exact hw.elim
  | succ fu ih =>
    intro x2 x3 a_quotients_cells hw H locs ls hP hD hS hl
    refine lv_iload_n hx hb dX5_invertColumn_4 rfl (lv_at hl 3 rfl) ?_
    refine lv_aload_n hx hb dX5_invertColumn_5 rfl (lv_at hl 0 rfl) ?_
    refine va_get (D := G.1) (ci := 5) (v := .int f_size) (C := RX5) (T := TX5) (N := 4) hx hb hts in_X5_invertColumn_X5 hown hE.1 hP 0 rfl rfl 0 (by decide) (hts (.fieldLink RX5 9 "QuandleColorings$Operation" "size" "I") lk_X5_invertColumn_9) (fun _ h9 => h9) rfl dX5_invertColumn_6 ?_
    refine lv_icmp_ge (tgt := 47) hx hb dX5_invertColumn_9 (by decide) (fun c_1 => ?_) (fun c_1 => ?_)
    · have hw := hw.1 c_1
      exact hKc x2 a_quotients_cells hw _ _ _ hP hD hS (lv_sub hl [0, 2] rfl)
    · have hw := hw.2 c_1
      refine lv_aload_n hx hb dX5_invertColumn_12 rfl (lv_at hl 0 rfl) ?_
      refine va_get (D := G.1) (ci := 5) (v := .ref h_products) (C := RX5) (T := TX5) (N := 4) hx hb hts in_X5_invertColumn_X5 hown hE.1 hP 0 rfl rfl 1 (by decide) (hts (.fieldLink RX5 18 "QuandleColorings$Operation" "products" "LQuandleColorings$Grid;") lk_X5_invertColumn_18) (fun _ h9 => h9) rfl dX5_invertColumn_13 ?_
      refine lv_iload_n hx hb dX5_invertColumn_16 rfl (lv_at hl 3 rfl) ?_
      refine lv_iload_n hx hb dX5_invertColumn_17 rfl (lv_at hl 1 rfl) ?_
      have hC9 : ([1, 2]).map (fun i => (wd_X5_invertColumn G h_this h_products h_quotients h_products_cells h_quotients_cells f_size f_badColumn a_products_cells a_quotients_cells)[i]?) = (wd_X2_get G h_products h_products_cells a_products_cells).map some := rfl
      refine qn_callI (wd := (fun u : Unit => wd_X5_invertColumn G h_this h_products h_quotients h_products_cells h_quotients_cells f_size f_badColumn a_products_cells a_quotients_cells)) [1, 2] (va_runV (As := [.int x3, .int x1]) (rest := []) ⟨hx, hb, hml, hown, hts⟩ (c_X2_get G _ h_products h_products_cells a_products_cells x3 x1 hw) (cwV 2 hts gX5_invertColumn_X2_get rfl rfl rfl (by decide +kernel) ⟨Nat.le_of_ble_eq_true rfl, Nat.le_of_ble_eq_true rfl⟩) (qn_preV hE hP hD [1, 2] hC9 (by decide +kernel) (ci := 2) rfl rfl) rfl rfl hl.1 rfl (lv_room (Nat.le_of_ble_eq_true rfl)) dX5_invertColumn_18 ⟨Nat.le_of_ble_eq_true rfl, Nat.le_of_ble_eq_true rfl⟩) hP hD hS hA hC9 [none, some 0, some 1, none, none] (M := 5) rfl (by decide +kernel) (fun _ => rfl) (fun _ => rfl) (fun r_2 _ H locs hw hP hD hS => ?_)
      try dsimp only at hw
      have hP : va_P G.1 vwCl (wd_X5_invertColumn G h_this h_products h_quotients h_products_cells h_quotients_cells f_size f_badColumn a_products_cells a_quotients_cells) H := hP
      have hD : va_D A (wd_X5_invertColumn G h_this h_products h_quotients h_products_cells h_quotients_cells f_size f_badColumn a_products_cells a_quotients_cells) := hD
      refine lv_istore (lv' := [(4, .int r_2), (0, .ref h_this), (1, .int x1), (2, .int x2), (3, .int x3)]) hx hb dX5_invertColumn_21 hl (by decide) rfl (fun ls hl => ?_)
      refine lv_aload_n hx hb dX5_invertColumn_23 rfl (lv_at hl 1 rfl) ?_
      refine va_get (D := G.1) (ci := 5) (v := .ref h_quotients) (C := RX5) (T := TX5) (N := 4) hx hb hts in_X5_invertColumn_X5 hown hE.1 hP 0 rfl rfl 2 (by decide) (hts (.fieldLink RX5 22 "QuandleColorings$Operation" "quotients" "LQuandleColorings$Grid;") lk_X5_invertColumn_22) (fun _ h9 => h9) rfl dX5_invertColumn_24 ?_
      refine lv_iload hx hb dX5_invertColumn_27 (lv_at hl 0 rfl) ?_
      refine lv_iload_n hx hb dX5_invertColumn_29 rfl (lv_at hl 2 rfl) ?_
      refine lv_iload_n hx hb dX5_invertColumn_30 rfl (lv_at hl 4 rfl) ?_
      have hC9 : ([3, 4]).map (fun i => (wd_X5_invertColumn G h_this h_products h_quotients h_products_cells h_quotients_cells f_size f_badColumn a_products_cells a_quotients_cells)[i]?) = (wd_X2_put G h_quotients h_quotients_cells a_quotients_cells).map some := rfl
      refine qn_callV (wd := (fun u : (Nat → Int32) => wd_X5_invertColumn G h_this h_products h_quotients h_products_cells h_quotients_cells f_size f_badColumn a_products_cells u)) [3, 4] (va_runV (As := [.int r_2, .int x1, .int x3]) (rest := []) ⟨hx, hb, hml, hown, hts⟩ (c_X2_put G _ h_quotients h_quotients_cells a_quotients_cells r_2 x1 x3 hw) (cwV 3 hts gX5_invertColumn_X2_put rfl rfl rfl (by decide +kernel) ⟨Nat.le_of_ble_eq_true rfl, Nat.le_of_ble_eq_true rfl⟩) (qn_preV hE hP hD [3, 4] hC9 (by decide +kernel) (ci := 2) rfl rfl) rfl rfl hl.1 rfl (lv_room (Nat.le_of_ble_eq_true rfl)) dX5_invertColumn_31 ⟨Nat.le_of_ble_eq_true rfl, Nat.le_of_ble_eq_true rfl⟩) hP hD hS hA hC9 [none, none, none, some 0, some 1] (M := 5) rfl (by decide +kernel) (fun _ => rfl) (fun _ => rfl) (fun a_quotients_cells_3 H locs hw hP hD hS => ?_)
      try dsimp only at hw
      have hP : va_P G.1 vwCl (wd_X5_invertColumn G h_this h_products h_quotients h_products_cells h_quotients_cells f_size f_badColumn a_products_cells a_quotients_cells_3) H := hP
      have hD : va_D A (wd_X5_invertColumn G h_this h_products h_quotients h_products_cells h_quotients_cells f_size f_badColumn a_products_cells a_quotients_cells_3) := hD
      refine lv_iload_n hx hb dX5_invertColumn_34 rfl (lv_at hl 3 rfl) ?_
      refine lv_iconst (v := 1) hx hb dX5_invertColumn_35 (by decide) ?_
      refine lv_iload hx hb dX5_invertColumn_36 (lv_at hl 0 rfl) ?_
      refine lv_ishl hx hb dX5_invertColumn_38 ?_
      refine lv_ior hx hb dX5_invertColumn_39 ?_
      refine lv_topi (fun x2_4 ex2_4 => ?_)
      have hw := hw x2_4 ex2_4
      refine lv_istore_n (lv' := [(2, .int x2_4), (4, .int r_2), (0, .ref h_this), (1, .int x1), (3, .int x3)]) hx hb dX5_invertColumn_40 rfl hl (by decide) rfl (fun ls hl => ?_)
      obtain ⟨x3_5, ex3_5⟩ : ∃ y : Int32, y = x3 + 1 := ⟨_, rfl⟩
      have hw := hw x3_5 ex3_5
      refine lv_iinc (v := x3_5) (lv' := [(3, .int x3_5), (2, .int x2_4), (4, .int r_2), (0, .ref h_this), (1, .int x1)]) hx hb dX5_invertColumn_41 hl (k := 4) rfl (by rw [ex3_5]; rfl) (by decide) rfl (fun ls hl => ?_)
      refine lv_goto (tgt := 4) hx hb dX5_invertColumn_44 (by decide) ?_
      exact ih x2_4 x3_5 a_quotients_cells_3 hw _ _ _ hP hD hS (lv_sub hl [3, 4, 1, 0] rfl)
set_option maxHeartbeats 4000000 in
set_option maxRecDepth 100000 in
theorem c_X5_invertColumn {l : Launch} (G : qn_G) (sz : Nat) (h_this h_products h_quotients h_products_cells h_quotients_cells : Nat) (f_size : Int32) (f_badColumn : Int32) (a_products_cells : Nat → Int32) (a_quotients_cells : Nat → Int32) (x1 : Int32) {post : Int32 → (Nat → Int32) → Prop} (hw : wp_X5_invertColumn post f_size a_products_cells a_quotients_cells x1) : Met l yX5_invertColumn wsX5_invertColumn rm_X5_invertColumn (qn_PC G [.ref h_this, .int x1] sz (wd_X5_invertColumn G h_this h_products h_quotients h_products_cells h_quotients_cells f_size f_badColumn a_products_cells a_quotients_cells)) (qn_QI G (fun (r : Int32) (u : (Nat → Int32)) => post r u) (fun u : (Nat → Int32) => wd_X5_invertColumn G h_this h_products h_quotients h_products_cells h_quotients_cells f_size f_badColumn a_products_cells u) (va_A (wd_X5_invertColumn G h_this h_products h_quotients h_products_cells h_quotients_cells f_size f_badColumn a_products_cells a_quotients_cells) sz)) 0 0 (va_A (wd_X5_invertColumn G h_this h_products h_quotients h_products_cells h_quotients_cells f_size f_badColumn a_products_cells a_quotients_cells) sz) := by
  refine Met.ofW (cc := cX5_invertColumn) (maxL := 5) (ret := (some .boolean)) (by decide) rfl ?_
  intro p e s m args below meth c s₁ B hml hv
  obtain ⟨rfl, hsz, hP, hE, hD0⟩ := hv
  have C0 : qn_C p m c cX5_invertColumn 5 s _ wsX5_invertColumn RX5 meth (some .boolean) := qn_C0 B hml
  obtain ⟨hx, hb, -, hown, hts, hr, hlocks⟩ := id C0
  subst hsz
  have hD := hD0.self (sz := s.heap.size)
  generalize hAe : va_A (wd_X5_invertColumn G h_this h_products h_quotients h_products_cells h_quotients_cells f_size f_badColumn a_products_cells a_quotients_cells) s.heap.size = A at hD ⊢
  have hA : ∀ q : Nat, s.heap.size ≤ q → A q := fun q h => by rw [← hAe]; exact Or.inr h
  clear hAe
  have hS : va_S A s.heap s.heap [] := va_S.rf
  have hl := lv_entry ([.ref h_this, .int x1]) (n := 5) (Nat.le_of_ble_eq_true rfl)
  rw [lg_entry_eq]
  generalize (lg_sl ([.ref h_this, .int x1]) ++ List.replicate (5 - (lg_sl ([.ref h_this, .int x1])).length) Slot.unset).toArray = ls at hl ⊢
  have hl : lv_has ls 5 [(0, .ref h_this), (1, .int x1)] := hl
  have hP : va_P G.1 vwCl (wd_X5_invertColumn G h_this h_products h_quotients h_products_cells h_quotients_cells f_size f_badColumn a_products_cells a_quotients_cells) s.heap := hP
  refine lv_iconst (v := 0) hx hb dX5_invertColumn_0 (by decide) ?_
  refine lv_istore_n (lv' := [(2, .int 0), (0, .ref h_this), (1, .int x1)]) hx hb dX5_invertColumn_1 rfl hl (by decide) rfl (fun ls hl => ?_)
  refine lv_iconst (v := 0) hx hb dX5_invertColumn_2 (by decide) ?_
  refine lv_istore_n (lv' := [(3, .int 0), (2, .int 0), (0, .ref h_this), (1, .int x1)]) hx hb dX5_invertColumn_3 rfl hl (by decide) rfl (fun ls hl => ?_)
  obtain ⟨fu_9, hw⟩ := hw
  refine l_X5_invertColumn_4 (post := post) C0 hE hA (fun x2_6 a_quotients_cells_7 hw H locs ls hP hD hS hl => ?_) fu_9 0 0 a_quotients_cells hw _ _ _ hP hD hS (lv_sub hl [2, 3, 1, 0] rfl)
  refine lv_iload_n hx hb dX5_invertColumn_47 rfl (lv_at hl 1 rfl) ?_
  refine lv_iconst (v := 1) hx hb dX5_invertColumn_48 (by decide) ?_
  refine lv_aload_n hx hb dX5_invertColumn_49 rfl (lv_at hl 0 rfl) ?_
  refine va_get (D := G.1) (ci := 5) (v := .int f_size) (C := RX5) (T := TX5) (N := 4) hx hb hts in_X5_invertColumn_X5 hown hE.1 hP 0 rfl rfl 0 (by decide) (hts (.fieldLink RX5 9 "QuandleColorings$Operation" "size" "I") lk_X5_invertColumn_9) (fun _ h9 => h9) rfl dX5_invertColumn_50 ?_
  refine lv_ishl hx hb dX5_invertColumn_53 ?_
  refine lv_iconst (v := 1) hx hb dX5_invertColumn_54 (by decide) ?_
  refine lv_isub hx hb dX5_invertColumn_55 ?_
  refine lv_icmp_ne (tgt := 63) hx hb dX5_invertColumn_56 (by decide) (fun c_8 => ?_) (fun c_8 => ?_)
  · have hw := hw.1 c_8
    refine lv_iconst (v := 0) hx hb dX5_invertColumn_63 (by decide) ?_
    exact W.zret (v := 0) hx hb hr (by decide) (fun t ht hW => ⟨⟨0, a_quotients_cells_7, rfl, hw, by rw [ht]; exact hP, hD⟩, hS.F ht⟩) hS.2.2 dX5_invertColumn_64
  · have hw := hw.2 c_8
    refine lv_iconst (v := 1) hx hb dX5_invertColumn_59 (by decide) ?_
    refine lv_goto (tgt := 64) hx hb dX5_invertColumn_60 (by decide) ?_
    exact W.zret (v := 1) hx hb hr (by decide) (fun t ht hW => ⟨⟨1, a_quotients_cells_7, rfl, hw, by rw [ht]; exact hP, hD⟩, hS.F ht⟩) hS.2.2 dX5_invertColumn_64
-- QuandleColorings$Operation.refreshQuotients()V
abbrev rm_X5_refreshQuotients : Room := { frames := 3, cells := 0, slots := 0, locals := 68 }
abbrev wd_X5_refreshQuotients (G : qn_G) (h_this h_products h_quotients h_products_cells h_quotients_cells : Nat) (f_size : Int32) (f_badColumn : Int32) (a_products_cells : Nat → Int32) (a_quotients_cells : Nat → Int32) : va_W := [(h_this, .inr (5, [.int f_size, .ref h_products, .ref h_quotients, .int f_badColumn])), (h_products, .inr (2, [.ref h_products_cells])), (h_products_cells, .inl (G.2.1, 36, .inl a_products_cells)), (h_quotients, .inr (2, [.ref h_quotients_cells])), (h_quotients_cells, .inl (G.2.1, 36, .inl a_quotients_cells))]
theorem in_X5_refreshQuotients_X5 : ∀ w ∈ u_ws RX5 TX5 4, w ∈ wsX5_refreshQuotients := by decide +kernel
theorem lk_X5_refreshQuotients_25 : Cond.fieldLink RX5 25 "QuandleColorings$Operation" "badColumn" "I" ∈ wsX5_refreshQuotients := by decide +kernel
theorem lk_X5_refreshQuotients_9 : Cond.fieldLink RX5 9 "QuandleColorings$Operation" "size" "I" ∈ wsX5_refreshQuotients := by decide +kernel
def wp_X5_refreshQuotients_L13 (KL13 : Int32 → (Nat → Int32) → Prop) (f_size : Int32) (a_products_cells : Nat → Int32) : Nat → Int32 → Int32 → (Nat → Int32) → Prop
  | 0 => fun _ _ _ => False
  | fu + 1 => fun x1 f_badColumn a_quotients_cells => ((x1 < 0 → (KL13 f_badColumn a_quotients_cells)) ∧ (¬ x1 < 0 → (wp_X5_invertColumn (fun (r_4 : Int32) (a_quotients_cells_3 : Nat → Int32) => ((¬ r_4 = 0 → (∀ x1_6 : Int32, x1_6 = x1 + (-1) → ((wp_X5_refreshQuotients_L13 KL13 f_size a_products_cells fu) x1_6 f_badColumn a_quotients_cells_3))) ∧ (r_4 = 0 → (∀ x1_7 : Int32, x1_7 = x1 + (-1) → ((wp_X5_refreshQuotients_L13 KL13 f_size a_products_cells fu) x1_7 x1 a_quotients_cells_3))))) f_size a_products_cells a_quotients_cells x1)))
def wp_X5_refreshQuotients (post : Int32 → (Nat → Int32) → Prop) (f_size : Int32) (a_products_cells : Nat → Int32) (a_quotients_cells : Nat → Int32) : Prop := (∀ x1_1 : Int32, x1_1 = f_size - 1 → (∃ fu_10 : Nat, wp_X5_refreshQuotients_L13 (fun (f_badColumn_8 : Int32) (a_quotients_cells_9 : Nat → Int32) => (post f_badColumn_8 a_quotients_cells_9)) f_size a_products_cells fu_10 x1_1 (-4) a_quotients_cells))
set_option maxHeartbeats 4000000 in
set_option maxRecDepth 100000 in
theorem l_X5_refreshQuotients_13 {p : Program} {l : Launch} {e : Env} {s : State} {m : MethodId} {args : Array Value} {below : List Frame} {meth : Method} {c : Code} {G : qn_G} {A : Nat → Prop} {h_this h_products h_quotients h_products_cells h_quotients_cells : Nat} {f_size : Int32} {a_products_cells : Nat → Int32} {post : Int32 → (Nat → Int32) → Prop} {KL13 : Int32 → (Nat → Int32) → Prop} (C0 : qn_C p m c cX5_refreshQuotients 2 s args wsX5_refreshQuotients RX5 meth none) (hE : qn_EV G s) (hA : ∀ q, s.heap.size ≤ q → A q) (hKc : ∀ (f_badColumn : Int32) (a_quotients_cells : Nat → Int32), KL13 f_badColumn a_quotients_cells → ∀ (H : Heap) (locs : List Loc) (ls : Array Slot), va_P G.1 vwCl (wd_X5_refreshQuotients G h_this h_products h_quotients h_products_cells h_quotients_cells f_size f_badColumn a_products_cells a_quotients_cells) H → va_D A (wd_X5_refreshQuotients G h_this h_products h_quotients h_products_cells h_quotients_cells f_size f_badColumn a_products_cells a_quotients_cells) → va_S A s.heap H locs → lv_has ls 2 [] → W p l e (headSpec wsX5_refreshQuotients rm_X5_refreshQuotients).room s m args below meth c H locs 0 0 (MQ below (qn_QV G (fun (u : Int32 × (Nat → Int32)) => post u.1 u.2) (fun u : Int32 × (Nat → Int32) => wd_X5_refreshQuotients G h_this h_products h_quotients h_products_cells h_quotients_cells f_size (u.1) a_products_cells (u.2)) A) args s 0 0 A) (F0 m 36 ls [])) :
    ∀ (fu : Nat) (x1 : Int32) (f_badColumn : Int32) (a_quotients_cells : Nat → Int32), wp_X5_refreshQuotients_L13 KL13 f_size a_products_cells fu x1 f_badColumn a_quotients_cells → ∀ (H : Heap) (locs : List Loc) (ls : Array Slot), va_P G.1 vwCl (wd_X5_refreshQuotients G h_this h_products h_quotients h_products_cells h_quotients_cells f_size f_badColumn a_products_cells a_quotients_cells) H → va_D A (wd_X5_refreshQuotients G h_this h_products h_quotients h_products_cells h_quotients_cells f_size f_badColumn a_products_cells a_quotients_cells) → va_S A s.heap H locs → lv_has ls 2 [(0, .ref h_this), (1, .int x1)] → W p l e (headSpec wsX5_refreshQuotients rm_X5_refreshQuotients).room s m args below meth c H locs 0 0 (MQ below (qn_QV G (fun (u : Int32 × (Nat → Int32)) => post u.1 u.2) (fun u : Int32 × (Nat → Int32) => wd_X5_refreshQuotients G h_this h_products h_quotients h_products_cells h_quotients_cells f_size (u.1) a_products_cells (u.2)) A) args s 0 0 A) (F0 m 13 ls []) := by
  obtain ⟨hx, hb, hml, hown, hts, hr, hlocks⟩ := id C0
  intro fu
  induction fu with
  | zero => intro x1 f_badColumn a_quotients_cells hw; exact hw.elim
  | succ fu ih =>
    intro x1 f_badColumn a_quotients_cells hw H locs ls hP hD hS hl
    refine lv_iload_n hx hb dX5_refreshQuotients_13 rfl (lv_at hl 1 rfl) ?_
    refine lv_if_lt (tgt := 36) hx hb dX5_refreshQuotients_14 (by decide) (fun c_2 => ?_) (fun c_2 => ?_)
    · have hw := hw.1 c_2
      exact hKc f_badColumn a_quotients_cells hw _ _ _ hP hD hS (lv_sub hl [] rfl)
    · have hw := hw.2 c_2
      refine lv_aload_n hx hb dX5_refreshQuotients_17 rfl (lv_at hl 0 rfl) ?_
      refine lv_iload_n hx hb dX5_refreshQuotients_18 rfl (lv_at hl 1 rfl) ?_
      have hC9 : ([0, 1, 2, 3, 4]).map (fun i => (wd_X5_refreshQuotients G h_this h_products h_quotients h_products_cells h_quotients_cells f_size f_badColumn a_products_cells a_quotients_cells)[i]?) = (wd_X5_invertColumn G h_this h_products h_quotients h_products_cells h_quotients_cells f_size f_badColumn a_products_cells a_quotients_cells).map some := rfl
      refine qn_callI (wd := (fun u : (Nat → Int32) => wd_X5_refreshQuotients G h_this h_products h_quotients h_products_cells h_quotients_cells f_size f_badColumn a_products_cells u)) [0, 1, 2, 3, 4] (va_runV (As := [.int x1]) (rest := []) ⟨hx, hb, hml, hown, hts⟩ (c_X5_invertColumn G _ h_this h_products h_quotients h_products_cells h_quotients_cells f_size f_badColumn a_products_cells a_quotients_cells x1 hw) (cwV 1 hts gX5_refreshQuotients_X5_invertColumn rfl rfl rfl (by decide +kernel) ⟨Nat.le_of_ble_eq_true rfl, Nat.le_of_ble_eq_true rfl⟩) (qn_preV hE hP hD [0, 1, 2, 3, 4] hC9 (by decide +kernel) (ci := 5) rfl rfl) rfl rfl hl.1 rfl (lv_room (Nat.le_of_ble_eq_true rfl)) dX5_refreshQuotients_19 ⟨Nat.le_of_ble_eq_true rfl, Nat.le_of_ble_eq_true rfl⟩) hP hD hS hA hC9 [some 0, some 1, some 2, some 3, some 4] (M := 5) rfl (by decide +kernel) (fun _ => rfl) (fun _ => rfl) (fun r_4 a_quotients_cells_3 H locs hw hP hD hS => ?_)
      try dsimp only at hw
      have hP : va_P G.1 vwCl (wd_X5_refreshQuotients G h_this h_products h_quotients h_products_cells h_quotients_cells f_size f_badColumn a_products_cells a_quotients_cells_3) H := hP
      have hD : va_D A (wd_X5_refreshQuotients G h_this h_products h_quotients h_products_cells h_quotients_cells f_size f_badColumn a_products_cells a_quotients_cells_3) := hD
      refine lv_if_ne (tgt := 30) hx hb dX5_refreshQuotients_22 (by decide) (fun c_5 => ?_) (fun c_5 => ?_)
      · have hw := hw.1 c_5
        obtain ⟨x1_6, ex1_6⟩ : ∃ y : Int32, y = x1 + (-1) := ⟨_, rfl⟩
        have hw := hw x1_6 ex1_6
        refine lv_iinc (v := x1_6) (lv' := [(1, .int x1_6), (0, .ref h_this)]) hx hb dX5_refreshQuotients_30 hl (k := 1) rfl (by rw [ex1_6]; rfl) (by decide) rfl (fun ls hl => ?_)
        refine lv_goto (tgt := 13) hx hb dX5_refreshQuotients_33 (by decide) ?_
        exact ih x1_6 f_badColumn a_quotients_cells_3 hw _ _ _ hP hD hS (lv_sub hl [1, 0] rfl)
      · have hw := hw.2 c_5
        refine lv_aload_n hx hb dX5_refreshQuotients_25 rfl (lv_at hl 0 rfl) ?_
        refine lv_iload_n hx hb dX5_refreshQuotients_26 rfl (lv_at hl 1 rfl) ?_
        refine va_put (D := G.1) (ci := 5) (v := .int x1) (ty := .int) (C := RX5) (T := TX5) (N := 4) hx hb hts in_X5_refreshQuotients_X5 tyX5 tyX5_ok nmX5 hown hE.1 hP hD hS 0 rfl rfl 3 (by decide) (hts (.fieldLink RX5 25 "QuandleColorings$Operation" "badColumn" "I") lk_X5_refreshQuotients_25) (fun _ h9 => h9) rfl (by decide +kernel) rfl rfl (Nat.le_of_ble_eq_true rfl) dX5_refreshQuotients_27 (fun H locs hP hD hS => ?_)
        have hP : va_P G.1 vwCl (wd_X5_refreshQuotients G h_this h_products h_quotients h_products_cells h_quotients_cells f_size x1 a_products_cells a_quotients_cells_3) H := hP
        have hD : va_D A (wd_X5_refreshQuotients G h_this h_products h_quotients h_products_cells h_quotients_cells f_size x1 a_products_cells a_quotients_cells_3) := hD
        obtain ⟨x1_7, ex1_7⟩ : ∃ y : Int32, y = x1 + (-1) := ⟨_, rfl⟩
        have hw := hw x1_7 ex1_7
        refine lv_iinc (v := x1_7) (lv' := [(1, .int x1_7), (0, .ref h_this)]) hx hb dX5_refreshQuotients_30 hl (k := 1) rfl (by rw [ex1_7]; rfl) (by decide) rfl (fun ls hl => ?_)
        refine lv_goto (tgt := 13) hx hb dX5_refreshQuotients_33 (by decide) ?_
        exact ih x1_7 x1 a_quotients_cells_3 hw _ _ _ hP hD hS (lv_sub hl [1, 0] rfl)
set_option maxHeartbeats 4000000 in
set_option maxRecDepth 100000 in
theorem c_X5_refreshQuotients {l : Launch} (G : qn_G) (sz : Nat) (h_this h_products h_quotients h_products_cells h_quotients_cells : Nat) (f_size : Int32) (f_badColumn : Int32) (a_products_cells : Nat → Int32) (a_quotients_cells : Nat → Int32) {post : Int32 → (Nat → Int32) → Prop} (hw : wp_X5_refreshQuotients post f_size a_products_cells a_quotients_cells) : Met l yX5_refreshQuotients wsX5_refreshQuotients rm_X5_refreshQuotients (qn_PC G [.ref h_this] sz (wd_X5_refreshQuotients G h_this h_products h_quotients h_products_cells h_quotients_cells f_size f_badColumn a_products_cells a_quotients_cells)) (qn_QV G (fun (u : Int32 × (Nat → Int32)) => post u.1 u.2) (fun u : Int32 × (Nat → Int32) => wd_X5_refreshQuotients G h_this h_products h_quotients h_products_cells h_quotients_cells f_size (u.1) a_products_cells (u.2)) (va_A (wd_X5_refreshQuotients G h_this h_products h_quotients h_products_cells h_quotients_cells f_size f_badColumn a_products_cells a_quotients_cells) sz)) 0 0 (va_A (wd_X5_refreshQuotients G h_this h_products h_quotients h_products_cells h_quotients_cells f_size f_badColumn a_products_cells a_quotients_cells) sz) := by
  refine Met.ofW (cc := cX5_refreshQuotients) (maxL := 2) (ret := none) (by decide) rfl ?_
  intro p e s m args below meth c s₁ B hml hv
  obtain ⟨rfl, hsz, hP, hE, hD0⟩ := hv
  have C0 : qn_C p m c cX5_refreshQuotients 2 s _ wsX5_refreshQuotients RX5 meth none := qn_C0 B hml
  obtain ⟨hx, hb, -, hown, hts, hr, hlocks⟩ := id C0
  subst hsz
  have hD := hD0.self (sz := s.heap.size)
  generalize hAe : va_A (wd_X5_refreshQuotients G h_this h_products h_quotients h_products_cells h_quotients_cells f_size f_badColumn a_products_cells a_quotients_cells) s.heap.size = A at hD ⊢
  have hA : ∀ q : Nat, s.heap.size ≤ q → A q := fun q h => by rw [← hAe]; exact Or.inr h
  clear hAe
  have hS : va_S A s.heap s.heap [] := va_S.rf
  have hl := lv_entry ([.ref h_this]) (n := 2) (Nat.le_of_ble_eq_true rfl)
  rw [lg_entry_eq]
  generalize (lg_sl ([.ref h_this]) ++ List.replicate (2 - (lg_sl ([.ref h_this])).length) Slot.unset).toArray = ls at hl ⊢
  have hl : lv_has ls 2 [(0, .ref h_this)] := hl
  have hP : va_P G.1 vwCl (wd_X5_refreshQuotients G h_this h_products h_quotients h_products_cells h_quotients_cells f_size f_badColumn a_products_cells a_quotients_cells) s.heap := hP
  refine lv_aload_n hx hb dX5_refreshQuotients_0 rfl (lv_at hl 0 rfl) ?_
  refine lv_bipush (v := (-4)) hx hb dX5_refreshQuotients_1 (by decide) ?_
  refine va_put (D := G.1) (ci := 5) (v := .int (-4)) (ty := .int) (C := RX5) (T := TX5) (N := 4) hx hb hts in_X5_refreshQuotients_X5 tyX5 tyX5_ok nmX5 hown hE.1 hP hD hS 0 rfl rfl 3 (by decide) (hts (.fieldLink RX5 25 "QuandleColorings$Operation" "badColumn" "I") lk_X5_refreshQuotients_25) (fun _ h9 => h9) rfl (by decide +kernel) rfl rfl (Nat.le_of_ble_eq_true rfl) dX5_refreshQuotients_3 (fun H locs hP hD hS => ?_)
  have hP : va_P G.1 vwCl (wd_X5_refreshQuotients G h_this h_products h_quotients h_products_cells h_quotients_cells f_size (-4) a_products_cells a_quotients_cells) H := hP
  have hD : va_D A (wd_X5_refreshQuotients G h_this h_products h_quotients h_products_cells h_quotients_cells f_size (-4) a_products_cells a_quotients_cells) := hD
  refine lv_aload_n hx hb dX5_refreshQuotients_6 rfl (lv_at hl 0 rfl) ?_
  refine va_get (D := G.1) (ci := 5) (v := .int f_size) (C := RX5) (T := TX5) (N := 4) hx hb hts in_X5_refreshQuotients_X5 hown hE.1 hP 0 rfl rfl 0 (by decide) (hts (.fieldLink RX5 9 "QuandleColorings$Operation" "size" "I") lk_X5_refreshQuotients_9) (fun _ h9 => h9) rfl dX5_refreshQuotients_7 ?_
  refine lv_iconst (v := 1) hx hb dX5_refreshQuotients_10 (by decide) ?_
  refine lv_isub hx hb dX5_refreshQuotients_11 ?_
  refine lv_topi (fun x1_1 ex1_1 => ?_)
  have hw := hw x1_1 ex1_1
  refine lv_istore_n (lv' := [(1, .int x1_1), (0, .ref h_this)]) hx hb dX5_refreshQuotients_12 rfl hl (by decide) rfl (fun ls hl => ?_)
  obtain ⟨fu_10, hw⟩ := hw
  refine l_X5_refreshQuotients_13 (post := post) C0 hE hA (fun f_badColumn_8 a_quotients_cells_9 hw H locs ls hP hD hS hl => ?_) fu_10 x1_1 (-4) a_quotients_cells hw _ _ _ hP hD hS (lv_sub hl [1, 0] rfl)
  exact W.vret hx hb hr (fun t ht hW => ⟨⟨(f_badColumn_8, a_quotients_cells_9), rfl, hw, by rw [ht]; exact hP, hD⟩, hS.F ht⟩) hS.2.2 dX5_refreshQuotients_36
-- QuandleColorings$Operation.setProduct(III)V
abbrev rm_X5_setProduct : Room := { frames := 4, cells := 0, slots := 0, locals := 89 }
abbrev wd_X5_setProduct (G : qn_G) (h_this h_products h_quotients h_products_cells h_quotients_cells : Nat) (f_size : Int32) (f_badColumn : Int32) (a_products_cells : Nat → Int32) (a_quotients_cells : Nat → Int32) : va_W := [(h_this, .inr (5, [.int f_size, .ref h_products, .ref h_quotients, .int f_badColumn])), (h_products, .inr (2, [.ref h_products_cells])), (h_products_cells, .inl (G.2.1, 36, .inl a_products_cells)), (h_quotients, .inr (2, [.ref h_quotients_cells])), (h_quotients_cells, .inl (G.2.1, 36, .inl a_quotients_cells))]
theorem in_X5_setProduct_X5 : ∀ w ∈ u_ws RX5 TX5 4, w ∈ wsX5_setProduct := by decide +kernel
theorem lk_X5_setProduct_18 : Cond.fieldLink RX5 18 "QuandleColorings$Operation" "products" "LQuandleColorings$Grid;" ∈ wsX5_setProduct := by decide +kernel
def wp_X5_setProduct (post : Int32 → (Nat → Int32) → (Nat → Int32) → Prop) (f_size : Int32) (a_products_cells : Nat → Int32) (a_quotients_cells : Nat → Int32) (x1 : Int32) (x2 : Int32) (x3 : Int32) : Prop := (wp_X2_put (fun (a_products_cells_1 : Nat → Int32) => (wp_X5_refreshQuotients (fun (f_badColumn_2 : Int32) (a_quotients_cells_3 : Nat → Int32) => (post f_badColumn_2 a_products_cells_1 a_quotients_cells_3)) f_size a_products_cells_1 a_quotients_cells)) a_products_cells x1 x2 x3)
set_option maxHeartbeats 4000000 in
set_option maxRecDepth 100000 in
theorem c_X5_setProduct {l : Launch} (G : qn_G) (sz : Nat) (h_this h_products h_quotients h_products_cells h_quotients_cells : Nat) (f_size : Int32) (f_badColumn : Int32) (a_products_cells : Nat → Int32) (a_quotients_cells : Nat → Int32) (x1 : Int32) (x2 : Int32) (x3 : Int32) {post : Int32 → (Nat → Int32) → (Nat → Int32) → Prop} (hw : wp_X5_setProduct post f_size a_products_cells a_quotients_cells x1 x2 x3) : Met l yX5_setProduct wsX5_setProduct rm_X5_setProduct (qn_PC G [.ref h_this, .int x1, .int x2, .int x3] sz (wd_X5_setProduct G h_this h_products h_quotients h_products_cells h_quotients_cells f_size f_badColumn a_products_cells a_quotients_cells)) (qn_QV G (fun (u : Int32 × (Nat → Int32) × (Nat → Int32)) => post u.1 u.2.1 u.2.2) (fun u : Int32 × (Nat → Int32) × (Nat → Int32) => wd_X5_setProduct G h_this h_products h_quotients h_products_cells h_quotients_cells f_size (u.1) (u.2.1) (u.2.2)) (va_A (wd_X5_setProduct G h_this h_products h_quotients h_products_cells h_quotients_cells f_size f_badColumn a_products_cells a_quotients_cells) sz)) 0 0 (va_A (wd_X5_setProduct G h_this h_products h_quotients h_products_cells h_quotients_cells f_size f_badColumn a_products_cells a_quotients_cells) sz) := by
  refine Met.ofW (cc := cX5_setProduct) (maxL := 4) (ret := none) (by decide) rfl ?_
  intro p e s m args below meth c s₁ B hml hv
  obtain ⟨rfl, hsz, hP, hE, hD0⟩ := hv
  have C0 : qn_C p m c cX5_setProduct 4 s _ wsX5_setProduct RX5 meth none := qn_C0 B hml
  obtain ⟨hx, hb, -, hown, hts, hr, hlocks⟩ := id C0
  subst hsz
  have hD := hD0.self (sz := s.heap.size)
  generalize hAe : va_A (wd_X5_setProduct G h_this h_products h_quotients h_products_cells h_quotients_cells f_size f_badColumn a_products_cells a_quotients_cells) s.heap.size = A at hD ⊢
  have hA : ∀ q : Nat, s.heap.size ≤ q → A q := fun q h => by rw [← hAe]; exact Or.inr h
  clear hAe
  have hS : va_S A s.heap s.heap [] := va_S.rf
  have hl := lv_entry ([.ref h_this, .int x1, .int x2, .int x3]) (n := 4) (Nat.le_of_ble_eq_true rfl)
  rw [lg_entry_eq]
  generalize (lg_sl ([.ref h_this, .int x1, .int x2, .int x3]) ++ List.replicate (4 - (lg_sl ([.ref h_this, .int x1, .int x2, .int x3])).length) Slot.unset).toArray = ls at hl ⊢
  have hl : lv_has ls 4 [(0, .ref h_this), (1, .int x1), (2, .int x2), (3, .int x3)] := hl
  have hP : va_P G.1 vwCl (wd_X5_setProduct G h_this h_products h_quotients h_products_cells h_quotients_cells f_size f_badColumn a_products_cells a_quotients_cells) s.heap := hP
  refine lv_aload_n hx hb dX5_setProduct_0 rfl (lv_at hl 0 rfl) ?_
  refine va_get (D := G.1) (ci := 5) (v := .ref h_products) (C := RX5) (T := TX5) (N := 4) hx hb hts in_X5_setProduct_X5 hown hE.1 hP 0 rfl rfl 1 (by decide) (hts (.fieldLink RX5 18 "QuandleColorings$Operation" "products" "LQuandleColorings$Grid;") lk_X5_setProduct_18) (fun _ h9 => h9) rfl dX5_setProduct_1 ?_
  refine lv_iload_n hx hb dX5_setProduct_4 rfl (lv_at hl 1 rfl) ?_
  refine lv_iload_n hx hb dX5_setProduct_5 rfl (lv_at hl 2 rfl) ?_
  refine lv_iload_n hx hb dX5_setProduct_6 rfl (lv_at hl 3 rfl) ?_
  have hC9 : ([1, 2]).map (fun i => (wd_X5_setProduct G h_this h_products h_quotients h_products_cells h_quotients_cells f_size f_badColumn a_products_cells a_quotients_cells)[i]?) = (wd_X2_put G h_products h_products_cells a_products_cells).map some := rfl
  refine qn_callV (wd := (fun u : (Nat → Int32) => wd_X5_setProduct G h_this h_products h_quotients h_products_cells h_quotients_cells f_size f_badColumn u a_quotients_cells)) [1, 2] (va_runV (As := [.int x1, .int x2, .int x3]) (rest := []) ⟨hx, hb, hml, hown, hts⟩ (c_X2_put G _ h_products h_products_cells a_products_cells x1 x2 x3 hw) (cwV 3 hts gX5_setProduct_X2_put rfl rfl rfl (by decide +kernel) ⟨Nat.le_of_ble_eq_true rfl, Nat.le_of_ble_eq_true rfl⟩) (qn_preV hE hP hD [1, 2] hC9 (by decide +kernel) (ci := 2) rfl rfl) rfl rfl hl.1 rfl (lv_room (Nat.le_of_ble_eq_true rfl)) dX5_setProduct_7 ⟨Nat.le_of_ble_eq_true rfl, Nat.le_of_ble_eq_true rfl⟩) hP hD hS hA hC9 [none, some 0, some 1, none, none] (M := 5) rfl (by decide +kernel) (fun _ => rfl) (fun _ => rfl) (fun a_products_cells_1 H locs hw hP hD hS => ?_)
  try dsimp only at hw
  have hP : va_P G.1 vwCl (wd_X5_setProduct G h_this h_products h_quotients h_products_cells h_quotients_cells f_size f_badColumn a_products_cells_1 a_quotients_cells) H := hP
  have hD : va_D A (wd_X5_setProduct G h_this h_products h_quotients h_products_cells h_quotients_cells f_size f_badColumn a_products_cells_1 a_quotients_cells) := hD
  refine lv_aload_n hx hb dX5_setProduct_10 rfl (lv_at hl 0 rfl) ?_
  have hC9 : ([0, 1, 2, 3, 4]).map (fun i => (wd_X5_setProduct G h_this h_products h_quotients h_products_cells h_quotients_cells f_size f_badColumn a_products_cells_1 a_quotients_cells)[i]?) = (wd_X5_refreshQuotients G h_this h_products h_quotients h_products_cells h_quotients_cells f_size f_badColumn a_products_cells_1 a_quotients_cells).map some := rfl
  refine qn_callV (wd := (fun u : Int32 × (Nat → Int32) => wd_X5_setProduct G h_this h_products h_quotients h_products_cells h_quotients_cells f_size (u.1) a_products_cells_1 (u.2))) [0, 1, 2, 3, 4] (va_runV (As := []) (rest := []) ⟨hx, hb, hml, hown, hts⟩ (c_X5_refreshQuotients G _ h_this h_products h_quotients h_products_cells h_quotients_cells f_size f_badColumn a_products_cells_1 a_quotients_cells hw) (cwV 0 hts gX5_setProduct_X5_refreshQuotients rfl rfl rfl (by decide +kernel) ⟨Nat.le_of_ble_eq_true rfl, Nat.le_of_ble_eq_true rfl⟩) (qn_preV hE hP hD [0, 1, 2, 3, 4] hC9 (by decide +kernel) (ci := 5) rfl rfl) rfl rfl hl.1 rfl (lv_room (Nat.le_of_ble_eq_true rfl)) dX5_setProduct_11 ⟨Nat.le_of_ble_eq_true rfl, Nat.le_of_ble_eq_true rfl⟩) hP hD hS hA hC9 [some 0, some 1, some 2, some 3, some 4] (M := 5) rfl (by decide +kernel) (fun _ => rfl) (fun _ => rfl) (fun u_4 H locs hw hP hD hS => ?_)
  obtain ⟨f_badColumn_2, a_quotients_cells_3⟩ := u_4
  try dsimp only at hw
  have hP : va_P G.1 vwCl (wd_X5_setProduct G h_this h_products h_quotients h_products_cells h_quotients_cells f_size f_badColumn_2 a_products_cells_1 a_quotients_cells_3) H := hP
  have hD : va_D A (wd_X5_setProduct G h_this h_products h_quotients h_products_cells h_quotients_cells f_size f_badColumn_2 a_products_cells_1 a_quotients_cells_3) := hD
  exact W.vret hx hb hr (fun t ht hW => ⟨⟨(f_badColumn_2, a_products_cells_1, a_quotients_cells_3), rfl, hw, by rw [ht]; exact hP, hD⟩, hS.F ht⟩) hS.2.2 dX5_setProduct_14
-- java/lang/Math.floorMod(II)I
abbrev rm_J9_floorMod_7cf53 : Room := { frames := 0, cells := 0, slots := 0, locals := 0 }
abbrev wd_J9_floorMod_7cf53 (G : qn_G) : va_W := []
def wp_J9_floorMod_7cf53 (post : Int32 → Prop) (x0 : Int32) (x1 : Int32) : Prop := (¬ x1 = 0 ∧ (∀ z_1 : Int32, z_1 = x0 - x0 / x1 * x1 → ((0 ≤ (x0 ^^^ x1) → (post z_1)) ∧ (¬ 0 ≤ (x0 ^^^ x1) → ((z_1 = 0 → (post z_1)) ∧ (¬ z_1 = 0 → (post (z_1 + x1))))))))
set_option maxHeartbeats 4000000 in
set_option maxRecDepth 100000 in
theorem c_J9_floorMod_7cf53 {l : Launch} (G : qn_G) (sz : Nat) (x0 : Int32) (x1 : Int32) {post : Int32 → Prop} (hw : wp_J9_floorMod_7cf53 post x0 x1) : Met l yJ9_floorMod_7cf53 wsJ9_floorMod_7cf53 rm_J9_floorMod_7cf53 (qn_PC G [.int x0, .int x1] sz (wd_J9_floorMod_7cf53 G)) (qn_QI G (fun (r : Int32) (u : Unit) => post r) (fun u : Unit => wd_J9_floorMod_7cf53 G) (va_A (wd_J9_floorMod_7cf53 G) sz)) 0 0 (va_A (wd_J9_floorMod_7cf53 G) sz) := by
  refine qn_ofWF (cc := cJ9_floorMod_7cf53) (maxL := 3) (ret := (some .int)) (by decide +kernel) rfl ?_
  intro p e s m args below meth c s₁ B hml hv
  obtain ⟨rfl, hsz, hP, hE, hD0⟩ := hv
  have C0 : qn_C p m c cJ9_floorMod_7cf53 3 s _ wsJ9_floorMod_7cf53 RJ9 meth (some .int) := qn_C0 B hml
  obtain ⟨hx, hb, -, hown, hts, hr, hlocks⟩ := id C0
  subst hsz
  have hD := hD0.self (sz := s.heap.size)
  generalize hAe : va_A (wd_J9_floorMod_7cf53 G) s.heap.size = A at hD ⊢
  have hA : ∀ q : Nat, s.heap.size ≤ q → A q := fun q h => by rw [← hAe]; exact Or.inr h
  clear hAe
  have hS : va_S A s.heap s.heap [] := va_S.rf
  have hl := lv_entry ([.int x0, .int x1]) (n := 3) (Nat.le_of_ble_eq_true rfl)
  rw [lg_entry_eq]
  generalize (lg_sl ([.int x0, .int x1]) ++ List.replicate (3 - (lg_sl ([.int x0, .int x1])).length) Slot.unset).toArray = ls at hl ⊢
  have hl : lv_has ls 3 [(0, .int x0), (1, .int x1)] := hl
  have hP : va_P G.1 vwCl (wd_J9_floorMod_7cf53 G) s.heap := hP
  refine lv_iload_n hx hb dJ9_floorMod_7cf53_0 rfl (lv_at hl 0 rfl) ?_
  refine lv_iload_n hx hb dJ9_floorMod_7cf53_1 rfl (lv_at hl 1 rfl) ?_
  have hne := hw.1
  have hw := hw.2
  refine lv_irem hx hb dJ9_floorMod_7cf53_2 hne ?_
  refine lv_topi (fun z_1 ez_1 => ?_)
  have hw := hw z_1 ez_1
  refine lv_istore_n (lv' := [(2, .int z_1), (0, .int x0), (1, .int x1)]) hx hb dJ9_floorMod_7cf53_3 rfl hl (by decide) rfl (fun ls hl => ?_)
  refine lv_iload_n hx hb dJ9_floorMod_7cf53_4 rfl (lv_at hl 1 rfl) ?_
  refine lv_iload_n hx hb dJ9_floorMod_7cf53_5 rfl (lv_at hl 2 rfl) ?_
  refine lv_ixor hx hb dJ9_floorMod_7cf53_6 ?_
  refine lv_if_ge (tgt := 18) hx hb dJ9_floorMod_7cf53_7 (by decide) (fun c_2 => ?_) (fun c_2 => ?_)
  · have hw := hw.1 c_2
    refine lv_iload_n hx hb dJ9_floorMod_7cf53_18 rfl (lv_at hl 0 rfl) ?_
    exact W.iret (v := z_1) hx hb hr (fun t ht hW => ⟨⟨z_1, (), rfl, hw, by rw [ht]; exact hP, hD⟩, hS.F ht⟩) hS.2.2 dJ9_floorMod_7cf53_19
  · have hw := hw.2 c_2
    refine lv_iload_n hx hb dJ9_floorMod_7cf53_10 rfl (lv_at hl 0 rfl) ?_
    refine lv_if_eq (tgt := 18) hx hb dJ9_floorMod_7cf53_11 (by decide) (fun c_3 => ?_) (fun c_3 => ?_)
    · have hw := hw.1 c_3
      refine lv_iload_n hx hb dJ9_floorMod_7cf53_18 rfl (lv_at hl 0 rfl) ?_
      exact W.iret (v := z_1) hx hb hr (fun t ht hW => ⟨⟨z_1, (), rfl, hw, by rw [ht]; exact hP, hD⟩, hS.F ht⟩) hS.2.2 dJ9_floorMod_7cf53_19
    · have hw := hw.2 c_3
      refine lv_iload_n hx hb dJ9_floorMod_7cf53_14 rfl (lv_at hl 0 rfl) ?_
      refine lv_iload_n hx hb dJ9_floorMod_7cf53_15 rfl (lv_at hl 2 rfl) ?_
      refine lv_iadd hx hb dJ9_floorMod_7cf53_16 ?_
      exact W.iret (v := (z_1 + x1)) hx hb hr (fun t ht hW => ⟨⟨(z_1 + x1), (), rfl, hw, by rw [ht]; exact hP, hD⟩, hS.F ht⟩) hS.2.2 dJ9_floorMod_7cf53_17
-- QuandleColorings$Operation.becomeLinear(IIII)V
abbrev rm_X5_becomeLinear : Room := { frames := 4, cells := 0, slots := 0, locals := 89 }
abbrev wd_X5_becomeLinear (G : qn_G) (h_this h_products h_quotients h_products_cells h_quotients_cells : Nat) (f_size : Int32) (f_badColumn : Int32) (a_products_cells : Nat → Int32) (a_quotients_cells : Nat → Int32) : va_W := [(h_this, .inr (5, [.int f_size, .ref h_products, .ref h_quotients, .int f_badColumn])), (h_products, .inr (2, [.ref h_products_cells])), (h_products_cells, .inl (G.2.1, 36, .inl a_products_cells)), (h_quotients, .inr (2, [.ref h_quotients_cells])), (h_quotients_cells, .inl (G.2.1, 36, .inl a_quotients_cells))]
theorem in_X5_becomeLinear_X5 : ∀ w ∈ u_ws RX5 TX5 4, w ∈ wsX5_becomeLinear := by decide +kernel
theorem lk_X5_becomeLinear_18 : Cond.fieldLink RX5 18 "QuandleColorings$Operation" "products" "LQuandleColorings$Grid;" ∈ wsX5_becomeLinear := by decide +kernel
theorem lk_X5_becomeLinear_9 : Cond.fieldLink RX5 9 "QuandleColorings$Operation" "size" "I" ∈ wsX5_becomeLinear := by decide +kernel
def wp_X5_becomeLinear_L17 (KL17 : (Nat → Int32) → Prop) (x1 : Int32) (x2 : Int32) (x3 : Int32) (x4 : Int32) (x5 : Int32) : Nat → Int32 → (Nat → Int32) → Prop
  | 0 => fun _ _ => False
  | fu + 1 => fun x6 a_products_cells => ((x1 ≤ x6 → (KL17 a_products_cells)) ∧ (¬ x1 ≤ x6 → (wp_J9_floorMod_7cf53 (fun (r_3 : Int32) => (wp_X2_put (fun (a_products_cells_4 : Nat → Int32) => (∀ x6_5 : Int32, x6_5 = x6 + 1 → ((wp_X5_becomeLinear_L17 KL17 x1 x2 x3 x4 x5 fu) x6_5 a_products_cells_4))) a_products_cells x5 x6 r_3)) (((x2 * x5) + (x3 * x6)) + x4) x1)))
def wp_X5_becomeLinear_L8 (KL8 : (Nat → Int32) → Prop) (x1 : Int32) (x2 : Int32) (x3 : Int32) (x4 : Int32) : Nat → Int32 → (Nat → Int32) → Prop
  | 0 => fun _ _ => False
  | fu + 1 => fun x5 a_products_cells => ((x1 ≤ x5 → (KL8 a_products_cells)) ∧ (¬ x1 ≤ x5 → (∃ fu_8 : Nat, wp_X5_becomeLinear_L17 (fun (a_products_cells_6 : Nat → Int32) => (∀ x5_7 : Int32, x5_7 = x5 + 1 → ((wp_X5_becomeLinear_L8 KL8 x1 x2 x3 x4 fu) x5_7 a_products_cells_6))) x1 x2 x3 x4 x5 fu_8 0 a_products_cells)))
def wp_X5_becomeLinear (post : Int32 → Int32 → (Nat → Int32) → (Nat → Int32) → Prop) (a_products_cells : Nat → Int32) (a_quotients_cells : Nat → Int32) (x1 : Int32) (x2 : Int32) (x3 : Int32) (x4 : Int32) : Prop := (∃ fu_13 : Nat, wp_X5_becomeLinear_L8 (fun (a_products_cells_9 : Nat → Int32) => (wp_X5_refreshQuotients (fun (f_badColumn_10 : Int32) (a_quotients_cells_11 : Nat → Int32) => (post x1 f_badColumn_10 a_products_cells_9 a_quotients_cells_11)) x1 a_products_cells_9 a_quotients_cells)) x1 x2 x3 x4 fu_13 0 a_products_cells)
set_option maxHeartbeats 4000000 in
set_option maxRecDepth 100000 in
theorem l_X5_becomeLinear_17 {p : Program} {l : Launch} {e : Env} {s : State} {m : MethodId} {args : Array Value} {below : List Frame} {meth : Method} {c : Code} {G : qn_G} {A : Nat → Prop} {h_this h_products h_quotients h_products_cells h_quotients_cells : Nat} {f_size : Int32} {f_badColumn : Int32} {a_quotients_cells : Nat → Int32} {x1 : Int32} {x2 : Int32} {x3 : Int32} {x4 : Int32} {x5 : Int32} {post : Int32 → Int32 → (Nat → Int32) → (Nat → Int32) → Prop} {KL17 : (Nat → Int32) → Prop} (C0 : qn_C p m c cX5_becomeLinear 7 s args wsX5_becomeLinear RX5 meth none) (hE : qn_EV G s) (hA : ∀ q, s.heap.size ≤ q → A q) (hKc : ∀ (a_products_cells : Nat → Int32), KL17 a_products_cells → ∀ (H : Heap) (locs : List Loc) (ls : Array Slot), va_P G.1 vwCl (wd_X5_becomeLinear G h_this h_products h_quotients h_products_cells h_quotients_cells f_size f_badColumn a_products_cells a_quotients_cells) H → va_D A (wd_X5_becomeLinear G h_this h_products h_quotients h_products_cells h_quotients_cells f_size f_badColumn a_products_cells a_quotients_cells) → va_S A s.heap H locs → lv_has ls 7 [(0, .ref h_this), (1, .int x1), (2, .int x2), (3, .int x3), (4, .int x4), (5, .int x5)] → W p l e (headSpec wsX5_becomeLinear rm_X5_becomeLinear).room s m args below meth c H locs 0 0 (MQ below (qn_QV G (fun (u : Int32 × Int32 × (Nat → Int32) × (Nat → Int32)) => post u.1 u.2.1 u.2.2.1 u.2.2.2) (fun u : Int32 × Int32 × (Nat → Int32) × (Nat → Int32) => wd_X5_becomeLinear G h_this h_products h_quotients h_products_cells h_quotients_cells (u.1) (u.2.1) (u.2.2.1) (u.2.2.2)) A) args s 0 0 A) (F0 m 56 ls [])) :
    ∀ (fu : Nat) (x6 : Int32) (a_products_cells : Nat → Int32), wp_X5_becomeLinear_L17 KL17 x1 x2 x3 x4 x5 fu x6 a_products_cells → ∀ (H : Heap) (locs : List Loc) (ls : Array Slot), va_P G.1 vwCl (wd_X5_becomeLinear G h_this h_products h_quotients h_products_cells h_quotients_cells f_size f_badColumn a_products_cells a_quotients_cells) H → va_D A (wd_X5_becomeLinear G h_this h_products h_quotients h_products_cells h_quotients_cells f_size f_badColumn a_products_cells a_quotients_cells) → va_S A s.heap H locs → lv_has ls 7 [(0, .ref h_this), (1, .int x1), (2, .int x2), (3, .int x3), (4, .int x4), (5, .int x5), (6, .int x6)] → W p l e (headSpec wsX5_becomeLinear rm_X5_becomeLinear).room s m args below meth c H locs 0 0 (MQ below (qn_QV G (fun (u : Int32 × Int32 × (Nat → Int32) × (Nat → Int32)) => post u.1 u.2.1 u.2.2.1 u.2.2.2) (fun u : Int32 × Int32 × (Nat → Int32) × (Nat → Int32) => wd_X5_becomeLinear G h_this h_products h_quotients h_products_cells h_quotients_cells (u.1) (u.2.1) (u.2.2.1) (u.2.2.2)) A) args s 0 0 A) (F0 m 17 ls []) := by
  obtain ⟨hx, hb, hml, hown, hts, hr, hlocks⟩ := id C0
  intro fu
  induction fu with
  | zero => intro x6 a_products_cells hw; exact hw.elim
  | succ fu ih =>
    intro x6 a_products_cells hw H locs ls hP hD hS hl
    refine lv_iload hx hb dX5_becomeLinear_17 (lv_at hl 6 rfl) ?_
    refine lv_iload_n hx hb dX5_becomeLinear_19 rfl (lv_at hl 1 rfl) ?_
    refine lv_icmp_ge (tgt := 56) hx hb dX5_becomeLinear_20 (by decide) (fun c_2 => ?_) (fun c_2 => ?_)
    · have hw := hw.1 c_2
      exact hKc a_products_cells hw _ _ _ hP hD hS (lv_sub hl [0, 1, 2, 3, 4, 5] rfl)
    · have hw := hw.2 c_2
      refine lv_aload_n hx hb dX5_becomeLinear_23 rfl (lv_at hl 0 rfl) ?_
      refine va_get (D := G.1) (ci := 5) (v := .ref h_products) (C := RX5) (T := TX5) (N := 4) hx hb hts in_X5_becomeLinear_X5 hown hE.1 hP 0 rfl rfl 1 (by decide) (hts (.fieldLink RX5 18 "QuandleColorings$Operation" "products" "LQuandleColorings$Grid;") lk_X5_becomeLinear_18) (fun _ h9 => h9) rfl dX5_becomeLinear_24 ?_
      refine lv_iload hx hb dX5_becomeLinear_27 (lv_at hl 5 rfl) ?_
      refine lv_iload hx hb dX5_becomeLinear_29 (lv_at hl 6 rfl) ?_
      refine lv_iload_n hx hb dX5_becomeLinear_31 rfl (lv_at hl 2 rfl) ?_
      refine lv_iload hx hb dX5_becomeLinear_32 (lv_at hl 5 rfl) ?_
      refine lv_imul hx hb dX5_becomeLinear_34 ?_
      refine lv_iload_n hx hb dX5_becomeLinear_35 rfl (lv_at hl 3 rfl) ?_
      refine lv_iload hx hb dX5_becomeLinear_36 (lv_at hl 6 rfl) ?_
      refine lv_imul hx hb dX5_becomeLinear_38 ?_
      refine lv_iadd hx hb dX5_becomeLinear_39 ?_
      refine lv_iload hx hb dX5_becomeLinear_40 (lv_at hl 4 rfl) ?_
      refine lv_iadd hx hb dX5_becomeLinear_42 ?_
      refine lv_iload_n hx hb dX5_becomeLinear_43 rfl (lv_at hl 1 rfl) ?_
      have hC9 : ([] : List Nat).map (fun i => (wd_X5_becomeLinear G h_this h_products h_quotients h_products_cells h_quotients_cells f_size f_badColumn a_products_cells a_quotients_cells)[i]?) = (wd_J9_floorMod_7cf53 G).map some := rfl
      refine qn_callI (wd := (fun u : Unit => wd_X5_becomeLinear G h_this h_products h_quotients h_products_cells h_quotients_cells f_size f_badColumn a_products_cells a_quotients_cells)) [] (va_runS (As := [.int (((x2 * x5) + (x3 * x6)) + x4), .int x1]) (rest := [.int x6, .int x5, .ref h_products]) ⟨hx, hb, hml, hown, hts⟩ (c_J9_floorMod_7cf53 G _ (((x2 * x5) + (x3 * x6)) + x4) x1 hw) (va_cwS 2 hts gX5_becomeLinear_J9_floorMod_7cf53 rfl rfl rfl (by decide +kernel) ⟨Nat.le_of_ble_eq_true rfl, Nat.le_of_ble_eq_true rfl⟩) (qn_preS hE hP hD [] hC9 (by decide +kernel)) rfl rfl hl.1 rfl (lv_room (Nat.le_of_ble_eq_true rfl)) dX5_becomeLinear_44 ⟨Nat.le_of_ble_eq_true rfl, Nat.le_of_ble_eq_true rfl⟩) hP hD hS hA hC9 [none, none, none, none, none] (M := 5) rfl (by decide +kernel) (fun _ => rfl) (fun _ => rfl) (fun r_3 _ H locs hw hP hD hS => ?_)
      try dsimp only at hw
      have hP : va_P G.1 vwCl (wd_X5_becomeLinear G h_this h_products h_quotients h_products_cells h_quotients_cells f_size f_badColumn a_products_cells a_quotients_cells) H := hP
      have hD : va_D A (wd_X5_becomeLinear G h_this h_products h_quotients h_products_cells h_quotients_cells f_size f_badColumn a_products_cells a_quotients_cells) := hD
      have hC9 : ([1, 2]).map (fun i => (wd_X5_becomeLinear G h_this h_products h_quotients h_products_cells h_quotients_cells f_size f_badColumn a_products_cells a_quotients_cells)[i]?) = (wd_X2_put G h_products h_products_cells a_products_cells).map some := rfl
      refine qn_callV (wd := (fun u : (Nat → Int32) => wd_X5_becomeLinear G h_this h_products h_quotients h_products_cells h_quotients_cells f_size f_badColumn u a_quotients_cells)) [1, 2] (va_runV (As := [.int x5, .int x6, .int r_3]) (rest := []) ⟨hx, hb, hml, hown, hts⟩ (c_X2_put G _ h_products h_products_cells a_products_cells x5 x6 r_3 hw) (cwV 3 hts gX5_becomeLinear_X2_put rfl rfl rfl (by decide +kernel) ⟨Nat.le_of_ble_eq_true rfl, Nat.le_of_ble_eq_true rfl⟩) (qn_preV hE hP hD [1, 2] hC9 (by decide +kernel) (ci := 2) rfl rfl) rfl rfl hl.1 rfl (lv_room (Nat.le_of_ble_eq_true rfl)) dX5_becomeLinear_47 ⟨Nat.le_of_ble_eq_true rfl, Nat.le_of_ble_eq_true rfl⟩) hP hD hS hA hC9 [none, some 0, some 1, none, none] (M := 5) rfl (by decide +kernel) (fun _ => rfl) (fun _ => rfl) (fun a_products_cells_4 H locs hw hP hD hS => ?_)
      try dsimp only at hw
      have hP : va_P G.1 vwCl (wd_X5_becomeLinear G h_this h_products h_quotients h_products_cells h_quotients_cells f_size f_badColumn a_products_cells_4 a_quotients_cells) H := hP
      have hD : va_D A (wd_X5_becomeLinear G h_this h_products h_quotients h_products_cells h_quotients_cells f_size f_badColumn a_products_cells_4 a_quotients_cells) := hD
      obtain ⟨x6_5, ex6_5⟩ : ∃ y : Int32, y = x6 + 1 := ⟨_, rfl⟩
      have hw := hw x6_5 ex6_5
      refine lv_iinc (v := x6_5) (lv' := [(6, .int x6_5), (0, .ref h_this), (1, .int x1), (2, .int x2), (3, .int x3), (4, .int x4), (5, .int x5)]) hx hb dX5_becomeLinear_50 hl (k := 6) rfl (by rw [ex6_5]; rfl) (by decide) rfl (fun ls hl => ?_)
      refine lv_goto (tgt := 17) hx hb dX5_becomeLinear_53 (by decide) ?_
      exact ih x6_5 a_products_cells_4 hw _ _ _ hP hD hS (lv_sub hl [1, 2, 3, 4, 5, 6, 0] rfl)
set_option maxHeartbeats 4000000 in
set_option maxRecDepth 100000 in
theorem l_X5_becomeLinear_8 {p : Program} {l : Launch} {e : Env} {s : State} {m : MethodId} {args : Array Value} {below : List Frame} {meth : Method} {c : Code} {G : qn_G} {A : Nat → Prop} {h_this h_products h_quotients h_products_cells h_quotients_cells : Nat} {f_size : Int32} {f_badColumn : Int32} {a_quotients_cells : Nat → Int32} {x1 : Int32} {x2 : Int32} {x3 : Int32} {x4 : Int32} {post : Int32 → Int32 → (Nat → Int32) → (Nat → Int32) → Prop} {KL8 : (Nat → Int32) → Prop} (C0 : qn_C p m c cX5_becomeLinear 7 s args wsX5_becomeLinear RX5 meth none) (hE : qn_EV G s) (hA : ∀ q, s.heap.size ≤ q → A q) (hKc : ∀ (a_products_cells : Nat → Int32), KL8 a_products_cells → ∀ (H : Heap) (locs : List Loc) (ls : Array Slot), va_P G.1 vwCl (wd_X5_becomeLinear G h_this h_products h_quotients h_products_cells h_quotients_cells f_size f_badColumn a_products_cells a_quotients_cells) H → va_D A (wd_X5_becomeLinear G h_this h_products h_quotients h_products_cells h_quotients_cells f_size f_badColumn a_products_cells a_quotients_cells) → va_S A s.heap H locs → lv_has ls 7 [(0, .ref h_this)] → W p l e (headSpec wsX5_becomeLinear rm_X5_becomeLinear).room s m args below meth c H locs 0 0 (MQ below (qn_QV G (fun (u : Int32 × Int32 × (Nat → Int32) × (Nat → Int32)) => post u.1 u.2.1 u.2.2.1 u.2.2.2) (fun u : Int32 × Int32 × (Nat → Int32) × (Nat → Int32) => wd_X5_becomeLinear G h_this h_products h_quotients h_products_cells h_quotients_cells (u.1) (u.2.1) (u.2.2.1) (u.2.2.2)) A) args s 0 0 A) (F0 m 62 ls [])) :
    ∀ (fu : Nat) (x5 : Int32) (a_products_cells : Nat → Int32), wp_X5_becomeLinear_L8 KL8 x1 x2 x3 x4 fu x5 a_products_cells → ∀ (H : Heap) (locs : List Loc) (ls : Array Slot), va_P G.1 vwCl (wd_X5_becomeLinear G h_this h_products h_quotients h_products_cells h_quotients_cells f_size f_badColumn a_products_cells a_quotients_cells) H → va_D A (wd_X5_becomeLinear G h_this h_products h_quotients h_products_cells h_quotients_cells f_size f_badColumn a_products_cells a_quotients_cells) → va_S A s.heap H locs → lv_has ls 7 [(0, .ref h_this), (1, .int x1), (2, .int x2), (3, .int x3), (4, .int x4), (5, .int x5)] → W p l e (headSpec wsX5_becomeLinear rm_X5_becomeLinear).room s m args below meth c H locs 0 0 (MQ below (qn_QV G (fun (u : Int32 × Int32 × (Nat → Int32) × (Nat → Int32)) => post u.1 u.2.1 u.2.2.1 u.2.2.2) (fun u : Int32 × Int32 × (Nat → Int32) × (Nat → Int32) => wd_X5_becomeLinear G h_this h_products h_quotients h_products_cells h_quotients_cells (u.1) (u.2.1) (u.2.2.1) (u.2.2.2)) A) args s 0 0 A) (F0 m 8 ls []) := by
  obtain ⟨hx, hb, hml, hown, hts, hr, hlocks⟩ := id C0
  intro fu
  induction fu with
  | zero => intro x5 a_products_cells hw; exact hw.elim
  | succ fu ih =>
    intro x5 a_products_cells hw H locs ls hP hD hS hl
    refine lv_iload hx hb dX5_becomeLinear_8 (lv_at hl 5 rfl) ?_
    refine lv_iload_n hx hb dX5_becomeLinear_10 rfl (lv_at hl 1 rfl) ?_
    refine lv_icmp_ge (tgt := 62) hx hb dX5_becomeLinear_11 (by decide) (fun c_1 => ?_) (fun c_1 => ?_)
    · have hw := hw.1 c_1
      exact hKc a_products_cells hw _ _ _ hP hD hS (lv_sub hl [0] rfl)
    · have hw := hw.2 c_1
      refine lv_iconst (v := 0) hx hb dX5_becomeLinear_14 (by decide) ?_
      refine lv_istore (lv' := [(6, .int 0), (0, .ref h_this), (1, .int x1), (2, .int x2), (3, .int x3), (4, .int x4), (5, .int x5)]) hx hb dX5_becomeLinear_15 hl (by decide) rfl (fun ls hl => ?_)
      obtain ⟨fu_8, hw⟩ := hw
      refine l_X5_becomeLinear_17 (post := post) C0 hE hA (fun a_products_cells_6 hw H locs ls hP hD hS hl => ?_) fu_8 0 a_products_cells hw _ _ _ hP hD hS (lv_sub hl [1, 2, 3, 4, 5, 6, 0] rfl)
      obtain ⟨x5_7, ex5_7⟩ : ∃ y : Int32, y = x5 + 1 := ⟨_, rfl⟩
      have hw := hw x5_7 ex5_7
      refine lv_iinc (v := x5_7) (lv' := [(5, .int x5_7), (0, .ref h_this), (1, .int x1), (2, .int x2), (3, .int x3), (4, .int x4)]) hx hb dX5_becomeLinear_56 hl (k := 5) rfl (by rw [ex5_7]; rfl) (by decide) rfl (fun ls hl => ?_)
      refine lv_goto (tgt := 8) hx hb dX5_becomeLinear_59 (by decide) ?_
      exact ih x5_7 a_products_cells_6 hw _ _ _ hP hD hS (lv_sub hl [1, 2, 3, 4, 5, 0] rfl)
set_option maxHeartbeats 4000000 in
set_option maxRecDepth 100000 in
theorem c_X5_becomeLinear {l : Launch} (G : qn_G) (sz : Nat) (h_this h_products h_quotients h_products_cells h_quotients_cells : Nat) (f_size : Int32) (f_badColumn : Int32) (a_products_cells : Nat → Int32) (a_quotients_cells : Nat → Int32) (x1 : Int32) (x2 : Int32) (x3 : Int32) (x4 : Int32) {post : Int32 → Int32 → (Nat → Int32) → (Nat → Int32) → Prop} (hw : wp_X5_becomeLinear post a_products_cells a_quotients_cells x1 x2 x3 x4) : Met l yX5_becomeLinear wsX5_becomeLinear rm_X5_becomeLinear (qn_PC G [.ref h_this, .int x1, .int x2, .int x3, .int x4] sz (wd_X5_becomeLinear G h_this h_products h_quotients h_products_cells h_quotients_cells f_size f_badColumn a_products_cells a_quotients_cells)) (qn_QV G (fun (u : Int32 × Int32 × (Nat → Int32) × (Nat → Int32)) => post u.1 u.2.1 u.2.2.1 u.2.2.2) (fun u : Int32 × Int32 × (Nat → Int32) × (Nat → Int32) => wd_X5_becomeLinear G h_this h_products h_quotients h_products_cells h_quotients_cells (u.1) (u.2.1) (u.2.2.1) (u.2.2.2)) (va_A (wd_X5_becomeLinear G h_this h_products h_quotients h_products_cells h_quotients_cells f_size f_badColumn a_products_cells a_quotients_cells) sz)) 0 0 (va_A (wd_X5_becomeLinear G h_this h_products h_quotients h_products_cells h_quotients_cells f_size f_badColumn a_products_cells a_quotients_cells) sz) := by
  refine Met.ofW (cc := cX5_becomeLinear) (maxL := 7) (ret := none) (by decide) rfl ?_
  intro p e s m args below meth c s₁ B hml hv
  obtain ⟨rfl, hsz, hP, hE, hD0⟩ := hv
  have C0 : qn_C p m c cX5_becomeLinear 7 s _ wsX5_becomeLinear RX5 meth none := qn_C0 B hml
  obtain ⟨hx, hb, -, hown, hts, hr, hlocks⟩ := id C0
  subst hsz
  have hD := hD0.self (sz := s.heap.size)
  generalize hAe : va_A (wd_X5_becomeLinear G h_this h_products h_quotients h_products_cells h_quotients_cells f_size f_badColumn a_products_cells a_quotients_cells) s.heap.size = A at hD ⊢
  have hA : ∀ q : Nat, s.heap.size ≤ q → A q := fun q h => by rw [← hAe]; exact Or.inr h
  clear hAe
  have hS : va_S A s.heap s.heap [] := va_S.rf
  have hl := lv_entry ([.ref h_this, .int x1, .int x2, .int x3, .int x4]) (n := 7) (Nat.le_of_ble_eq_true rfl)
  rw [lg_entry_eq]
  generalize (lg_sl ([.ref h_this, .int x1, .int x2, .int x3, .int x4]) ++ List.replicate (7 - (lg_sl ([.ref h_this, .int x1, .int x2, .int x3, .int x4])).length) Slot.unset).toArray = ls at hl ⊢
  have hl : lv_has ls 7 [(0, .ref h_this), (1, .int x1), (2, .int x2), (3, .int x3), (4, .int x4)] := hl
  have hP : va_P G.1 vwCl (wd_X5_becomeLinear G h_this h_products h_quotients h_products_cells h_quotients_cells f_size f_badColumn a_products_cells a_quotients_cells) s.heap := hP
  refine lv_aload_n hx hb dX5_becomeLinear_0 rfl (lv_at hl 0 rfl) ?_
  refine lv_iload_n hx hb dX5_becomeLinear_1 rfl (lv_at hl 1 rfl) ?_
  refine va_put (D := G.1) (ci := 5) (v := .int x1) (ty := .int) (C := RX5) (T := TX5) (N := 4) hx hb hts in_X5_becomeLinear_X5 tyX5 tyX5_ok nmX5 hown hE.1 hP hD hS 0 rfl rfl 0 (by decide) (hts (.fieldLink RX5 9 "QuandleColorings$Operation" "size" "I") lk_X5_becomeLinear_9) (fun _ h9 => h9) rfl (by decide +kernel) rfl rfl (Nat.le_of_ble_eq_true rfl) dX5_becomeLinear_2 (fun H locs hP hD hS => ?_)
  have hP : va_P G.1 vwCl (wd_X5_becomeLinear G h_this h_products h_quotients h_products_cells h_quotients_cells x1 f_badColumn a_products_cells a_quotients_cells) H := hP
  have hD : va_D A (wd_X5_becomeLinear G h_this h_products h_quotients h_products_cells h_quotients_cells x1 f_badColumn a_products_cells a_quotients_cells) := hD
  refine lv_iconst (v := 0) hx hb dX5_becomeLinear_5 (by decide) ?_
  refine lv_istore (lv' := [(5, .int 0), (0, .ref h_this), (1, .int x1), (2, .int x2), (3, .int x3), (4, .int x4)]) hx hb dX5_becomeLinear_6 hl (by decide) rfl (fun ls hl => ?_)
  obtain ⟨fu_13, hw⟩ := hw
  refine l_X5_becomeLinear_8 (post := post) C0 hE hA (fun a_products_cells_9 hw H locs ls hP hD hS hl => ?_) fu_13 0 a_products_cells hw _ _ _ hP hD hS (lv_sub hl [1, 2, 3, 4, 5, 0] rfl)
  refine lv_aload_n hx hb dX5_becomeLinear_62 rfl (lv_at hl 0 rfl) ?_
  have hC9 : ([0, 1, 2, 3, 4]).map (fun i => (wd_X5_becomeLinear G h_this h_products h_quotients h_products_cells h_quotients_cells x1 f_badColumn a_products_cells_9 a_quotients_cells)[i]?) = (wd_X5_refreshQuotients G h_this h_products h_quotients h_products_cells h_quotients_cells x1 f_badColumn a_products_cells_9 a_quotients_cells).map some := rfl
  refine qn_callV (wd := (fun u : Int32 × (Nat → Int32) => wd_X5_becomeLinear G h_this h_products h_quotients h_products_cells h_quotients_cells x1 (u.1) a_products_cells_9 (u.2))) [0, 1, 2, 3, 4] (va_runV (As := []) (rest := []) ⟨hx, hb, hml, hown, hts⟩ (c_X5_refreshQuotients G _ h_this h_products h_quotients h_products_cells h_quotients_cells x1 f_badColumn a_products_cells_9 a_quotients_cells hw) (cwV 0 hts gX5_becomeLinear_X5_refreshQuotients rfl rfl rfl (by decide +kernel) ⟨Nat.le_of_ble_eq_true rfl, Nat.le_of_ble_eq_true rfl⟩) (qn_preV hE hP hD [0, 1, 2, 3, 4] hC9 (by decide +kernel) (ci := 5) rfl rfl) rfl rfl hl.1 rfl (lv_room (Nat.le_of_ble_eq_true rfl)) dX5_becomeLinear_63 ⟨Nat.le_of_ble_eq_true rfl, Nat.le_of_ble_eq_true rfl⟩) hP hD hS hA hC9 [some 0, some 1, some 2, some 3, some 4] (M := 5) rfl (by decide +kernel) (fun _ => rfl) (fun _ => rfl) (fun u_12 H locs hw hP hD hS => ?_)
  obtain ⟨f_badColumn_10, a_quotients_cells_11⟩ := u_12
  try dsimp only at hw
  have hP : va_P G.1 vwCl (wd_X5_becomeLinear G h_this h_products h_quotients h_products_cells h_quotients_cells x1 f_badColumn_10 a_products_cells_9 a_quotients_cells_11) H := hP
  have hD : va_D A (wd_X5_becomeLinear G h_this h_products h_quotients h_products_cells h_quotients_cells x1 f_badColumn_10 a_products_cells_9 a_quotients_cells_11) := hD
  exact W.vret hx hb hr (fun t ht hW => ⟨⟨(x1, f_badColumn_10, a_products_cells_9, a_quotients_cells_11), rfl, hw, by rw [ht]; exact hP, hD⟩, hS.F ht⟩) hS.2.2 dX5_becomeLinear_66
-- QuandleColorings$Operation.image(II)I
abbrev rm_X5_image : Room := { frames := 0, cells := 0, slots := 0, locals := 0 }
abbrev wd_X5_image (G : qn_G) : va_W := []
def wp_X5_image (post : Int32 → Prop) (x0 : Int32) (x1 : Int32) : Prop := (∀ x2_1 : Int32, x2_1 = (3 * x0) + x1 → ((x2_1 < 0 → (post 0)) ∧ (¬ x2_1 < 0 → ((18 ≤ x2_1 → (post 0)) ∧ (¬ 18 ≤ x2_1 → (vp_in x2_1 18 ∧ (post (qn_perm x2_1.toNatClampNeg))))))))
set_option maxHeartbeats 4000000 in
set_option maxRecDepth 100000 in
theorem c_X5_image {l : Launch} (G : qn_G) (sz : Nat) (x0 : Int32) (x1 : Int32) (h_st : Nat) {post : Int32 → Prop} (hw : wp_X5_image post x0 x1) : Met l yX5_image wsX5_image rm_X5_image (qn_PCZ h_st G [.int x0, .int x1] sz (wd_X5_image G)) (qn_QI G (fun (r : Int32) (u : Unit) => post r) (fun u : Unit => wd_X5_image G) (va_A (wd_X5_image G) sz)) 0 0 (va_A (wd_X5_image G) sz) := by
  refine Met.ofW (cc := cX5_image) (maxL := 3) (ret := (some .int)) (by decide) rfl ?_
  intro p e s m args below meth c s₁ B hml hv
  obtain ⟨rfl, hsz, hP, hE, hD0, hZ⟩ := hv
  have C0 : qn_C p m c cX5_image 3 s _ wsX5_image RX5 meth (some .int) := qn_C0 B hml
  obtain ⟨hx, hb, -, hown, hts, hr, hlocks⟩ := id C0
  subst hsz
  have hD := hD0.self (sz := s.heap.size)
  generalize hAe : va_A (wd_X5_image G) s.heap.size = A at hD hZ ⊢
  have hA : ∀ q : Nat, s.heap.size ≤ q → A q := fun q h => by rw [← hAe]; exact Or.inr h
  clear hAe
  have hS : va_S A s.heap s.heap [] := va_S.rf
  have hl := lv_entry ([.int x0, .int x1]) (n := 3) (Nat.le_of_ble_eq_true rfl)
  rw [lg_entry_eq]
  generalize (lg_sl ([.int x0, .int x1]) ++ List.replicate (3 - (lg_sl ([.int x0, .int x1])).length) Slot.unset).toArray = ls at hl ⊢
  have hl : lv_has ls 3 [(0, .int x0), (1, .int x1)] := hl
  have hP : va_P G.1 vwCl (wd_X5_image G) s.heap := hP
  refine lv_iconst (v := 3) hx hb dX5_image_0 (by decide) ?_
  refine lv_iload_n hx hb dX5_image_1 rfl (lv_at hl 0 rfl) ?_
  refine lv_imul hx hb dX5_image_2 ?_
  refine lv_iload_n hx hb dX5_image_3 rfl (lv_at hl 1 rfl) ?_
  refine lv_iadd hx hb dX5_image_4 ?_
  refine lv_topi (fun x2_1 ex2_1 => ?_)
  have hw := hw x2_1 ex2_1
  refine lv_istore_n (lv' := [(2, .int x2_1), (0, .int x0), (1, .int x1)]) hx hb dX5_image_5 rfl hl (by decide) rfl (fun ls hl => ?_)
  refine lv_iload_n hx hb dX5_image_6 rfl (lv_at hl 0 rfl) ?_
  refine lv_if_lt (tgt := 26) hx hb dX5_image_7 (by decide) (fun c_2 => ?_) (fun c_2 => ?_)
  · have hw := hw.1 c_2
    refine lv_iconst (v := 0) hx hb dX5_image_26 (by decide) ?_
    exact W.iret (v := 0) hx hb hr (fun t ht hW => ⟨⟨0, (), rfl, hw, by rw [ht]; exact hP, hD⟩, hS.F ht⟩) hS.2.2 dX5_image_27
  · have hw := hw.2 c_2
    refine lv_iload_n hx hb dX5_image_10 rfl (lv_at hl 0 rfl) ?_
    refine va_getsN hx hb hZ.1 hS hown (va_Nw.use rfl (qn_f_Operation_86 hE.2.1)) (fun _ h9 => h9) dX5_image_11 ?_
    refine va_tlen hx hb hZ.2 hS (v := 18) (by decide) dX5_image_14 ?_
    refine lv_icmp_ge (tgt := 26) hx hb dX5_image_15 (by decide) (fun c_3 => ?_) (fun c_3 => ?_)
    · have hw := hw.1 c_3
      refine lv_iconst (v := 0) hx hb dX5_image_26 (by decide) ?_
      exact W.iret (v := 0) hx hb hr (fun t ht hW => ⟨⟨0, (), rfl, hw, by rw [ht]; exact hP, hD⟩, hS.F ht⟩) hS.2.2 dX5_image_27
    · have hw := hw.2 c_3
      refine va_getsN hx hb hZ.1 hS hown (va_Nw.use rfl (qn_f_Operation_86 hE.2.1)) (fun _ h9 => h9) dX5_image_18 ?_
      refine lv_iload_n hx hb dX5_image_21 rfl (lv_at hl 0 rfl) ?_
      have hin := hw.1
      have hw := hw.2
      refine va_ti hx hb hZ.2 hS hin (v := .int (qn_perm x2_1.toNatClampNeg)) rfl dX5_image_22 ?_
      refine lv_goto (tgt := 27) hx hb dX5_image_23 (by decide) ?_
      exact W.iret (v := (qn_perm x2_1.toNatClampNeg)) hx hb hr (fun t ht hW => ⟨⟨(qn_perm x2_1.toNatClampNeg), (), rfl, hw, by rw [ht]; exact hP, hD⟩, hS.F ht⟩) hS.2.2 dX5_image_27
-- QuandleColorings$Operation.sameProducts(IIII)Z
abbrev rm_X5_sameProducts : Room := { frames := 1, cells := 0, slots := 0, locals := 22 }
abbrev wd_X5_sameProducts (G : qn_G) : va_W := []
def wp_X5_sameProducts_L3 (post : Int32 → Prop) (KL3 : Prop) (x0 : Int32) (x1 : Int32) (x2 : Int32) (x3 : Int32) : Nat → Int32 → Prop
  | 0 => fun _ => False
  | fu + 1 => fun x4 => ((3 ≤ x4 → KL3) ∧ (¬ 3 ≤ x4 → (wp_X5_image (fun (r_2 : Int32) => (wp_X5_image (fun (r_3 : Int32) => (wp_X5_image (fun (r_4 : Int32) => (wp_X5_image (fun (r_5 : Int32) => ((r_3 = r_5 → (∀ x4_7 : Int32, x4_7 = x4 + 1 → ((wp_X5_sameProducts_L3 post KL3 x0 x1 x2 x3 fu) x4_7))) ∧ (¬ r_3 = r_5 → (post 0)))) x2 r_4)) x3 x4)) x0 r_2)) x1 x4)))
def wp_X5_sameProducts (post : Int32 → Prop) (x0 : Int32) (x1 : Int32) (x2 : Int32) (x3 : Int32) : Prop := (∃ fu_8 : Nat, wp_X5_sameProducts_L3 post (post 1) x0 x1 x2 x3 fu_8 0)
set_option maxHeartbeats 4000000 in
set_option maxRecDepth 100000 in
theorem l_X5_sameProducts_3 {p : Program} {l : Launch} {e : Env} {s : State} {m : MethodId} {args : Array Value} {below : List Frame} {meth : Method} {c : Code} {G : qn_G} {A : Nat → Prop} {h_st : Nat} {x0 : Int32} {x1 : Int32} {x2 : Int32} {x3 : Int32} {post : Int32 → Prop} {KL3 : Prop} (C0 : qn_C p m c cX5_sameProducts 5 s args wsX5_sameProducts RX5 meth (some .boolean)) (hE : qn_EV G s) (hA : ∀ q, s.heap.size ≤ q → A q) (hZ : qn_SP h_st A s s.heap) (hKc : KL3 → ∀ (H : Heap) (locs : List Loc) (ls : Array Slot), va_P G.1 vwCl (wd_X5_sameProducts G) H → va_D A (wd_X5_sameProducts G) → va_S A s.heap H locs → lv_has ls 5 [] → W p l e (headSpec wsX5_sameProducts rm_X5_sameProducts).room s m args below meth c H locs 0 0 (MQ below (qn_QI G (fun (r : Int32) (u : Unit) => post r) (fun u : Unit => wd_X5_sameProducts G) A) args s 0 0 A) (F0 m 40 ls [])) :
    ∀ (fu : Nat) (x4 : Int32), wp_X5_sameProducts_L3 post KL3 x0 x1 x2 x3 fu x4 → ∀ (H : Heap) (locs : List Loc) (ls : Array Slot), va_P G.1 vwCl (wd_X5_sameProducts G) H → va_D A (wd_X5_sameProducts G) → va_S A s.heap H locs → lv_has ls 5 [(0, .int x0), (1, .int x1), (2, .int x2), (3, .int x3), (4, .int x4)] → W p l e (headSpec wsX5_sameProducts rm_X5_sameProducts).room s m args below meth c H locs 0 0 (MQ below (qn_QI G (fun (r : Int32) (u : Unit) => post r) (fun u : Unit => wd_X5_sameProducts G) A) args s 0 0 A) (F0 m 3 ls []) := by
  obtain ⟨hx, hb, hml, hown, hts, hr, hlocks⟩ := id C0
  intro fu
  induction fu with
  | zero => intro x4 hw; exact hw.elim
  | succ fu ih =>
    intro x4 hw H locs ls hP hD hS hl
    refine lv_iload hx hb dX5_sameProducts_3 (lv_at hl 4 rfl) ?_
    refine lv_iconst (v := 3) hx hb dX5_sameProducts_5 (by decide) ?_
    refine lv_icmp_ge (tgt := 40) hx hb dX5_sameProducts_6 (by decide) (fun c_1 => ?_) (fun c_1 => ?_)
    · have hw := hw.1 c_1
      exact hKc  hw _ _ _ hP hD hS (lv_sub hl [] rfl)
    · have hw := hw.2 c_1
      refine lv_iload_n hx hb dX5_sameProducts_9 rfl (lv_at hl 0 rfl) ?_
      refine lv_iload_n hx hb dX5_sameProducts_10 rfl (lv_at hl 1 rfl) ?_
      refine lv_iload hx hb dX5_sameProducts_11 (lv_at hl 4 rfl) ?_
      have hC9 : ([] : List Nat).map (fun i => (wd_X5_sameProducts G)[i]?) = (wd_X5_image G).map some := rfl
      refine qn_callI (wd := (fun u : Unit => wd_X5_sameProducts G)) [] (va_runS (As := [.int x1, .int x4]) (rest := [.int x0]) ⟨hx, hb, hml, hown, hts⟩ (c_X5_image G _ x1 x4 h_st hw) (va_cwS 2 hts gX5_sameProducts_X5_image rfl rfl rfl (by decide +kernel) ⟨Nat.le_of_ble_eq_true rfl, Nat.le_of_ble_eq_true rfl⟩) (qn_preSZ hE hP hD hZ hS hA [] hC9 (by decide +kernel)) rfl rfl hl.1 rfl (lv_room (Nat.le_of_ble_eq_true rfl)) dX5_sameProducts_13 ⟨Nat.le_of_ble_eq_true rfl, Nat.le_of_ble_eq_true rfl⟩) hP hD hS hA hC9 [] (M := 0) rfl (by decide +kernel) (fun _ => rfl) (fun _ => rfl) (fun r_2 _ H locs hw hP hD hS => ?_)
      try dsimp only at hw
      have hP : va_P G.1 vwCl (wd_X5_sameProducts G) H := hP
      have hD : va_D A (wd_X5_sameProducts G) := hD
      have hC9 : ([] : List Nat).map (fun i => (wd_X5_sameProducts G)[i]?) = (wd_X5_image G).map some := rfl
      refine qn_callI (wd := (fun u : Unit => wd_X5_sameProducts G)) [] (va_runS (As := [.int x0, .int r_2]) (rest := []) ⟨hx, hb, hml, hown, hts⟩ (c_X5_image G _ x0 r_2 h_st hw) (va_cwS 2 hts gX5_sameProducts_X5_image rfl rfl rfl (by decide +kernel) ⟨Nat.le_of_ble_eq_true rfl, Nat.le_of_ble_eq_true rfl⟩) (qn_preSZ hE hP hD hZ hS hA [] hC9 (by decide +kernel)) rfl rfl hl.1 rfl (lv_room (Nat.le_of_ble_eq_true rfl)) dX5_sameProducts_16 ⟨Nat.le_of_ble_eq_true rfl, Nat.le_of_ble_eq_true rfl⟩) hP hD hS hA hC9 [] (M := 0) rfl (by decide +kernel) (fun _ => rfl) (fun _ => rfl) (fun r_3 _ H locs hw hP hD hS => ?_)
      try dsimp only at hw
      have hP : va_P G.1 vwCl (wd_X5_sameProducts G) H := hP
      have hD : va_D A (wd_X5_sameProducts G) := hD
      refine lv_iload_n hx hb dX5_sameProducts_19 rfl (lv_at hl 2 rfl) ?_
      refine lv_iload_n hx hb dX5_sameProducts_20 rfl (lv_at hl 3 rfl) ?_
      refine lv_iload hx hb dX5_sameProducts_21 (lv_at hl 4 rfl) ?_
      have hC9 : ([] : List Nat).map (fun i => (wd_X5_sameProducts G)[i]?) = (wd_X5_image G).map some := rfl
      refine qn_callI (wd := (fun u : Unit => wd_X5_sameProducts G)) [] (va_runS (As := [.int x3, .int x4]) (rest := [.int x2, .int r_3]) ⟨hx, hb, hml, hown, hts⟩ (c_X5_image G _ x3 x4 h_st hw) (va_cwS 2 hts gX5_sameProducts_X5_image rfl rfl rfl (by decide +kernel) ⟨Nat.le_of_ble_eq_true rfl, Nat.le_of_ble_eq_true rfl⟩) (qn_preSZ hE hP hD hZ hS hA [] hC9 (by decide +kernel)) rfl rfl hl.1 rfl (lv_room (Nat.le_of_ble_eq_true rfl)) dX5_sameProducts_23 ⟨Nat.le_of_ble_eq_true rfl, Nat.le_of_ble_eq_true rfl⟩) hP hD hS hA hC9 [] (M := 0) rfl (by decide +kernel) (fun _ => rfl) (fun _ => rfl) (fun r_4 _ H locs hw hP hD hS => ?_)
      try dsimp only at hw
      have hP : va_P G.1 vwCl (wd_X5_sameProducts G) H := hP
      have hD : va_D A (wd_X5_sameProducts G) := hD
      have hC9 : ([] : List Nat).map (fun i => (wd_X5_sameProducts G)[i]?) = (wd_X5_image G).map some := rfl
      refine qn_callI (wd := (fun u : Unit => wd_X5_sameProducts G)) [] (va_runS (As := [.int x2, .int r_4]) (rest := [.int r_3]) ⟨hx, hb, hml, hown, hts⟩ (c_X5_image G _ x2 r_4 h_st hw) (va_cwS 2 hts gX5_sameProducts_X5_image rfl rfl rfl (by decide +kernel) ⟨Nat.le_of_ble_eq_true rfl, Nat.le_of_ble_eq_true rfl⟩) (qn_preSZ hE hP hD hZ hS hA [] hC9 (by decide +kernel)) rfl rfl hl.1 rfl (lv_room (Nat.le_of_ble_eq_true rfl)) dX5_sameProducts_26 ⟨Nat.le_of_ble_eq_true rfl, Nat.le_of_ble_eq_true rfl⟩) hP hD hS hA hC9 [] (M := 0) rfl (by decide +kernel) (fun _ => rfl) (fun _ => rfl) (fun r_5 _ H locs hw hP hD hS => ?_)
      try dsimp only at hw
      have hP : va_P G.1 vwCl (wd_X5_sameProducts G) H := hP
      have hD : va_D A (wd_X5_sameProducts G) := hD
      refine lv_icmp_eq (tgt := 34) hx hb dX5_sameProducts_29 (by decide) (fun c_6 => ?_) (fun c_6 => ?_)
      · have hw := hw.1 c_6
        obtain ⟨x4_7, ex4_7⟩ : ∃ y : Int32, y = x4 + 1 := ⟨_, rfl⟩
        have hw := hw x4_7 ex4_7
        refine lv_iinc (v := x4_7) (lv' := [(4, .int x4_7), (0, .int x0), (1, .int x1), (2, .int x2), (3, .int x3)]) hx hb dX5_sameProducts_34 hl (k := 4) rfl (by rw [ex4_7]; rfl) (by decide) rfl (fun ls hl => ?_)
        refine lv_goto (tgt := 3) hx hb dX5_sameProducts_37 (by decide) ?_
        exact ih x4_7 hw _ _ _ hP hD hS (lv_sub hl [1, 2, 3, 4, 0] rfl)
      · have hw := hw.2 c_6
        refine lv_iconst (v := 0) hx hb dX5_sameProducts_32 (by decide) ?_
        exact W.zret (v := 0) hx hb hr (by decide) (fun t ht hW => ⟨⟨0, (), rfl, hw, by rw [ht]; exact hP, hD⟩, hS.F ht⟩) hS.2.2 dX5_sameProducts_33
set_option maxHeartbeats 4000000 in
set_option maxRecDepth 100000 in
theorem c_X5_sameProducts {l : Launch} (G : qn_G) (sz : Nat) (x0 : Int32) (x1 : Int32) (x2 : Int32) (x3 : Int32) (h_st : Nat) {post : Int32 → Prop} (hw : wp_X5_sameProducts post x0 x1 x2 x3) : Met l yX5_sameProducts wsX5_sameProducts rm_X5_sameProducts (qn_PCZ h_st G [.int x0, .int x1, .int x2, .int x3] sz (wd_X5_sameProducts G)) (qn_QI G (fun (r : Int32) (u : Unit) => post r) (fun u : Unit => wd_X5_sameProducts G) (va_A (wd_X5_sameProducts G) sz)) 0 0 (va_A (wd_X5_sameProducts G) sz) := by
  refine Met.ofW (cc := cX5_sameProducts) (maxL := 5) (ret := (some .boolean)) (by decide) rfl ?_
  intro p e s m args below meth c s₁ B hml hv
  obtain ⟨rfl, hsz, hP, hE, hD0, hZ⟩ := hv
  have C0 : qn_C p m c cX5_sameProducts 5 s _ wsX5_sameProducts RX5 meth (some .boolean) := qn_C0 B hml
  obtain ⟨hx, hb, -, hown, hts, hr, hlocks⟩ := id C0
  subst hsz
  have hD := hD0.self (sz := s.heap.size)
  generalize hAe : va_A (wd_X5_sameProducts G) s.heap.size = A at hD hZ ⊢
  have hA : ∀ q : Nat, s.heap.size ≤ q → A q := fun q h => by rw [← hAe]; exact Or.inr h
  clear hAe
  have hS : va_S A s.heap s.heap [] := va_S.rf
  have hl := lv_entry ([.int x0, .int x1, .int x2, .int x3]) (n := 5) (Nat.le_of_ble_eq_true rfl)
  rw [lg_entry_eq]
  generalize (lg_sl ([.int x0, .int x1, .int x2, .int x3]) ++ List.replicate (5 - (lg_sl ([.int x0, .int x1, .int x2, .int x3])).length) Slot.unset).toArray = ls at hl ⊢
  have hl : lv_has ls 5 [(0, .int x0), (1, .int x1), (2, .int x2), (3, .int x3)] := hl
  have hP : va_P G.1 vwCl (wd_X5_sameProducts G) s.heap := hP
  refine lv_iconst (v := 0) hx hb dX5_sameProducts_0 (by decide) ?_
  refine lv_istore (lv' := [(4, .int 0), (0, .int x0), (1, .int x1), (2, .int x2), (3, .int x3)]) hx hb dX5_sameProducts_1 hl (by decide) rfl (fun ls hl => ?_)
  obtain ⟨fu_8, hw⟩ := hw
  refine l_X5_sameProducts_3 (post := post) C0 hE hA hZ (fun  hw H locs ls hP hD hS hl => ?_) fu_8 0 hw _ _ _ hP hD hS (lv_sub hl [1, 2, 3, 4, 0] rfl)
  refine lv_iconst (v := 1) hx hb dX5_sameProducts_40 (by decide) ?_
  exact W.zret (v := 1) hx hb hr (by decide) (fun t ht hW => ⟨⟨1, (), rfl, hw, by rw [ht]; exact hP, hD⟩, hS.F ht⟩) hS.2.2 dX5_sameProducts_41
-- QuandleColorings$Operation.conjugate(II)I
abbrev rm_X5_conjugate : Room := { frames := 2, cells := 0, slots := 0, locals := 46 }
abbrev wd_X5_conjugate (G : qn_G) : va_W := []
def wp_X5_conjugate_L2 (post : Int32 → Prop) (KL2 : Prop) (x0 : Int32) (x1 : Int32) : Nat → Int32 → Prop
  | 0 => fun _ => False
  | fu + 1 => fun x2 => ((6 ≤ x2 → KL2) ∧ (¬ 6 ≤ x2 → (wp_X5_sameProducts (fun (r_2 : Int32) => ((r_2 = 0 → (∀ x2_4 : Int32, x2_4 = x2 + 1 → ((wp_X5_conjugate_L2 post KL2 x0 x1 fu) x2_4))) ∧ (¬ r_2 = 0 → (post x2)))) x1 x2 x0 x1)))
def wp_X5_conjugate (post : Int32 → Prop) (x0 : Int32) (x1 : Int32) : Prop := (∃ fu_5 : Nat, wp_X5_conjugate_L2 post (post x0) x0 x1 fu_5 0)
set_option maxHeartbeats 4000000 in
set_option maxRecDepth 100000 in
theorem l_X5_conjugate_2 {p : Program} {l : Launch} {e : Env} {s : State} {m : MethodId} {args : Array Value} {below : List Frame} {meth : Method} {c : Code} {G : qn_G} {A : Nat → Prop} {h_st : Nat} {x0 : Int32} {x1 : Int32} {post : Int32 → Prop} {KL2 : Prop} (C0 : qn_C p m c cX5_conjugate 3 s args wsX5_conjugate RX5 meth (some .int)) (hE : qn_EV G s) (hA : ∀ q, s.heap.size ≤ q → A q) (hZ : qn_SP h_st A s s.heap) (hKc : KL2 → ∀ (H : Heap) (locs : List Loc) (ls : Array Slot), va_P G.1 vwCl (wd_X5_conjugate G) H → va_D A (wd_X5_conjugate G) → va_S A s.heap H locs → lv_has ls 3 [(0, .int x0)] → W p l e (headSpec wsX5_conjugate rm_X5_conjugate).room s m args below meth c H locs 0 0 (MQ below (qn_QI G (fun (r : Int32) (u : Unit) => post r) (fun u : Unit => wd_X5_conjugate G) A) args s 0 0 A) (F0 m 26 ls [])) :
    ∀ (fu : Nat) (x2 : Int32), wp_X5_conjugate_L2 post KL2 x0 x1 fu x2 → ∀ (H : Heap) (locs : List Loc) (ls : Array Slot), va_P G.1 vwCl (wd_X5_conjugate G) H → va_D A (wd_X5_conjugate G) → va_S A s.heap H locs → lv_has ls 3 [(0, .int x0), (1, .int x1), (2, .int x2)] → W p l e (headSpec wsX5_conjugate rm_X5_conjugate).room s m args below meth c H locs 0 0 (MQ below (qn_QI G (fun (r : Int32) (u : Unit) => post r) (fun u : Unit => wd_X5_conjugate G) A) args s 0 0 A) (F0 m 2 ls []) := by
  obtain ⟨hx, hb, hml, hown, hts, hr, hlocks⟩ := id C0
  intro fu
  induction fu with
  | zero => intro x2 hw; exact hw.elim
  | succ fu ih =>
    intro x2 hw H locs ls hP hD hS hl
    refine lv_iload_n hx hb dX5_conjugate_2 rfl (lv_at hl 2 rfl) ?_
    refine lv_bipush (v := 6) hx hb dX5_conjugate_3 (by decide) ?_
    refine lv_icmp_ge (tgt := 26) hx hb dX5_conjugate_5 (by decide) (fun c_1 => ?_) (fun c_1 => ?_)
    · have hw := hw.1 c_1
      exact hKc  hw _ _ _ hP hD hS (lv_sub hl [0] rfl)
    · have hw := hw.2 c_1
      refine lv_iload_n hx hb dX5_conjugate_8 rfl (lv_at hl 1 rfl) ?_
      refine lv_iload_n hx hb dX5_conjugate_9 rfl (lv_at hl 2 rfl) ?_
      refine lv_iload_n hx hb dX5_conjugate_10 rfl (lv_at hl 0 rfl) ?_
      refine lv_iload_n hx hb dX5_conjugate_11 rfl (lv_at hl 1 rfl) ?_
      have hC9 : ([] : List Nat).map (fun i => (wd_X5_conjugate G)[i]?) = (wd_X5_sameProducts G).map some := rfl
      refine qn_callI (wd := (fun u : Unit => wd_X5_conjugate G)) [] (va_runS (As := [.int x1, .int x2, .int x0, .int x1]) (rest := []) ⟨hx, hb, hml, hown, hts⟩ (c_X5_sameProducts G _ x1 x2 x0 x1 h_st hw) (va_cwS 4 hts gX5_conjugate_X5_sameProducts rfl rfl rfl (by decide +kernel) ⟨Nat.le_of_ble_eq_true rfl, Nat.le_of_ble_eq_true rfl⟩) (qn_preSZ hE hP hD hZ hS hA [] hC9 (by decide +kernel)) rfl rfl hl.1 rfl (lv_room (Nat.le_of_ble_eq_true rfl)) dX5_conjugate_12 ⟨Nat.le_of_ble_eq_true rfl, Nat.le_of_ble_eq_true rfl⟩) hP hD hS hA hC9 [] (M := 0) rfl (by decide +kernel) (fun _ => rfl) (fun _ => rfl) (fun r_2 _ H locs hw hP hD hS => ?_)
      try dsimp only at hw
      have hP : va_P G.1 vwCl (wd_X5_conjugate G) H := hP
      have hD : va_D A (wd_X5_conjugate G) := hD
      refine lv_if_eq (tgt := 20) hx hb dX5_conjugate_15 (by decide) (fun c_3 => ?_) (fun c_3 => ?_)
      · have hw := hw.1 c_3
        obtain ⟨x2_4, ex2_4⟩ : ∃ y : Int32, y = x2 + 1 := ⟨_, rfl⟩
        have hw := hw x2_4 ex2_4
        refine lv_iinc (v := x2_4) (lv' := [(2, .int x2_4), (0, .int x0), (1, .int x1)]) hx hb dX5_conjugate_20 hl (k := 2) rfl (by rw [ex2_4]; rfl) (by decide) rfl (fun ls hl => ?_)
        refine lv_goto (tgt := 2) hx hb dX5_conjugate_23 (by decide) ?_
        exact ih x2_4 hw _ _ _ hP hD hS (lv_sub hl [1, 2, 0] rfl)
      · have hw := hw.2 c_3
        refine lv_iload_n hx hb dX5_conjugate_18 rfl (lv_at hl 2 rfl) ?_
        exact W.iret (v := x2) hx hb hr (fun t ht hW => ⟨⟨x2, (), rfl, hw, by rw [ht]; exact hP, hD⟩, hS.F ht⟩) hS.2.2 dX5_conjugate_19
set_option maxHeartbeats 4000000 in
set_option maxRecDepth 100000 in
theorem c_X5_conjugate {l : Launch} (G : qn_G) (sz : Nat) (x0 : Int32) (x1 : Int32) (h_st : Nat) {post : Int32 → Prop} (hw : wp_X5_conjugate post x0 x1) : Met l yX5_conjugate wsX5_conjugate rm_X5_conjugate (qn_PCZ h_st G [.int x0, .int x1] sz (wd_X5_conjugate G)) (qn_QI G (fun (r : Int32) (u : Unit) => post r) (fun u : Unit => wd_X5_conjugate G) (va_A (wd_X5_conjugate G) sz)) 0 0 (va_A (wd_X5_conjugate G) sz) := by
  refine Met.ofW (cc := cX5_conjugate) (maxL := 3) (ret := (some .int)) (by decide) rfl ?_
  intro p e s m args below meth c s₁ B hml hv
  obtain ⟨rfl, hsz, hP, hE, hD0, hZ⟩ := hv
  have C0 : qn_C p m c cX5_conjugate 3 s _ wsX5_conjugate RX5 meth (some .int) := qn_C0 B hml
  obtain ⟨hx, hb, -, hown, hts, hr, hlocks⟩ := id C0
  subst hsz
  have hD := hD0.self (sz := s.heap.size)
  generalize hAe : va_A (wd_X5_conjugate G) s.heap.size = A at hD hZ ⊢
  have hA : ∀ q : Nat, s.heap.size ≤ q → A q := fun q h => by rw [← hAe]; exact Or.inr h
  clear hAe
  have hS : va_S A s.heap s.heap [] := va_S.rf
  have hl := lv_entry ([.int x0, .int x1]) (n := 3) (Nat.le_of_ble_eq_true rfl)
  rw [lg_entry_eq]
  generalize (lg_sl ([.int x0, .int x1]) ++ List.replicate (3 - (lg_sl ([.int x0, .int x1])).length) Slot.unset).toArray = ls at hl ⊢
  have hl : lv_has ls 3 [(0, .int x0), (1, .int x1)] := hl
  have hP : va_P G.1 vwCl (wd_X5_conjugate G) s.heap := hP
  refine lv_iconst (v := 0) hx hb dX5_conjugate_0 (by decide) ?_
  refine lv_istore_n (lv' := [(2, .int 0), (0, .int x0), (1, .int x1)]) hx hb dX5_conjugate_1 rfl hl (by decide) rfl (fun ls hl => ?_)
  obtain ⟨fu_5, hw⟩ := hw
  refine l_X5_conjugate_2 (post := post) C0 hE hA hZ (fun  hw H locs ls hP hD hS hl => ?_) fu_5 0 hw _ _ _ hP hD hS (lv_sub hl [1, 2, 0] rfl)
  refine lv_iload_n hx hb dX5_conjugate_26 rfl (lv_at hl 0 rfl) ?_
  exact W.iret (v := x0) hx hb hr (fun t ht hW => ⟨⟨x0, (), rfl, hw, by rw [ht]; exact hP, hD⟩, hS.F ht⟩) hS.2.2 dX5_conjugate_27
-- QuandleColorings$Operation.becomeConjugation()V
abbrev rm_X5_becomeConjugation : Room := { frames := 4, cells := 0, slots := 0, locals := 89 }
abbrev wd_X5_becomeConjugation (G : qn_G) (h_this h_products h_quotients h_products_cells h_quotients_cells : Nat) (f_size : Int32) (f_badColumn : Int32) (a_products_cells : Nat → Int32) (a_quotients_cells : Nat → Int32) : va_W := [(h_this, .inr (5, [.int f_size, .ref h_products, .ref h_quotients, .int f_badColumn])), (h_products, .inr (2, [.ref h_products_cells])), (h_products_cells, .inl (G.2.1, 36, .inl a_products_cells)), (h_quotients, .inr (2, [.ref h_quotients_cells])), (h_quotients_cells, .inl (G.2.1, 36, .inl a_quotients_cells))]
theorem in_X5_becomeConjugation_X5 : ∀ w ∈ u_ws RX5 TX5 4, w ∈ wsX5_becomeConjugation := by decide +kernel
theorem lk_X5_becomeConjugation_18 : Cond.fieldLink RX5 18 "QuandleColorings$Operation" "products" "LQuandleColorings$Grid;" ∈ wsX5_becomeConjugation := by decide +kernel
theorem lk_X5_becomeConjugation_9 : Cond.fieldLink RX5 9 "QuandleColorings$Operation" "size" "I" ∈ wsX5_becomeConjugation := by decide +kernel
def wp_X5_becomeConjugation_L16 (KL16 : (Nat → Int32) → Prop) (x1 : Int32) : Nat → Int32 → (Nat → Int32) → Prop
  | 0 => fun _ _ => False
  | fu + 1 => fun x2 a_products_cells => ((6 ≤ x2 → (KL16 a_products_cells)) ∧ (¬ 6 ≤ x2 → (wp_X5_conjugate (fun (r_3 : Int32) => (wp_X2_put (fun (a_products_cells_4 : Nat → Int32) => (∀ x2_5 : Int32, x2_5 = x2 + 1 → ((wp_X5_becomeConjugation_L16 KL16 x1 fu) x2_5 a_products_cells_4))) a_products_cells x1 x2 r_3)) x1 x2)))
def wp_X5_becomeConjugation_L8 (KL8 : (Nat → Int32) → Prop) : Nat → Int32 → (Nat → Int32) → Prop
  | 0 => fun _ _ => False
  | fu + 1 => fun x1 a_products_cells => ((6 ≤ x1 → (KL8 a_products_cells)) ∧ (¬ 6 ≤ x1 → (∃ fu_8 : Nat, wp_X5_becomeConjugation_L16 (fun (a_products_cells_6 : Nat → Int32) => (∀ x1_7 : Int32, x1_7 = x1 + 1 → ((wp_X5_becomeConjugation_L8 KL8 fu) x1_7 a_products_cells_6))) x1 fu_8 0 a_products_cells)))
def wp_X5_becomeConjugation (post : Int32 → Int32 → (Nat → Int32) → (Nat → Int32) → Prop) (a_products_cells : Nat → Int32) (a_quotients_cells : Nat → Int32) : Prop := (∃ fu_13 : Nat, wp_X5_becomeConjugation_L8 (fun (a_products_cells_9 : Nat → Int32) => (wp_X5_refreshQuotients (fun (f_badColumn_10 : Int32) (a_quotients_cells_11 : Nat → Int32) => (post 6 f_badColumn_10 a_products_cells_9 a_quotients_cells_11)) 6 a_products_cells_9 a_quotients_cells)) fu_13 0 a_products_cells)
set_option maxHeartbeats 4000000 in
set_option maxRecDepth 100000 in
theorem l_X5_becomeConjugation_16 {p : Program} {l : Launch} {e : Env} {s : State} {m : MethodId} {args : Array Value} {below : List Frame} {meth : Method} {c : Code} {G : qn_G} {A : Nat → Prop} {h_this h_products h_quotients h_products_cells h_quotients_cells : Nat} {h_st : Nat} {f_size : Int32} {f_badColumn : Int32} {a_quotients_cells : Nat → Int32} {x1 : Int32} {post : Int32 → Int32 → (Nat → Int32) → (Nat → Int32) → Prop} {KL16 : (Nat → Int32) → Prop} (C0 : qn_C p m c cX5_becomeConjugation 3 s args wsX5_becomeConjugation RX5 meth none) (hE : qn_EV G s) (hA : ∀ q, s.heap.size ≤ q → A q) (hZ : qn_SP h_st A s s.heap) (hKc : ∀ (a_products_cells : Nat → Int32), KL16 a_products_cells → ∀ (H : Heap) (locs : List Loc) (ls : Array Slot), va_P G.1 vwCl (wd_X5_becomeConjugation G h_this h_products h_quotients h_products_cells h_quotients_cells f_size f_badColumn a_products_cells a_quotients_cells) H → va_D A (wd_X5_becomeConjugation G h_this h_products h_quotients h_products_cells h_quotients_cells f_size f_badColumn a_products_cells a_quotients_cells) → va_S A s.heap H locs → lv_has ls 3 [(0, .ref h_this), (1, .int x1)] → W p l e (headSpec wsX5_becomeConjugation rm_X5_becomeConjugation).room s m args below meth c H locs 0 0 (MQ below (qn_QV G (fun (u : Int32 × Int32 × (Nat → Int32) × (Nat → Int32)) => post u.1 u.2.1 u.2.2.1 u.2.2.2) (fun u : Int32 × Int32 × (Nat → Int32) × (Nat → Int32) => wd_X5_becomeConjugation G h_this h_products h_quotients h_products_cells h_quotients_cells (u.1) (u.2.1) (u.2.2.1) (u.2.2.2)) A) args s 0 0 A) (F0 m 42 ls [])) :
    ∀ (fu : Nat) (x2 : Int32) (a_products_cells : Nat → Int32), wp_X5_becomeConjugation_L16 KL16 x1 fu x2 a_products_cells → ∀ (H : Heap) (locs : List Loc) (ls : Array Slot), va_P G.1 vwCl (wd_X5_becomeConjugation G h_this h_products h_quotients h_products_cells h_quotients_cells f_size f_badColumn a_products_cells a_quotients_cells) H → va_D A (wd_X5_becomeConjugation G h_this h_products h_quotients h_products_cells h_quotients_cells f_size f_badColumn a_products_cells a_quotients_cells) → va_S A s.heap H locs → lv_has ls 3 [(0, .ref h_this), (1, .int x1), (2, .int x2)] → W p l e (headSpec wsX5_becomeConjugation rm_X5_becomeConjugation).room s m args below meth c H locs 0 0 (MQ below (qn_QV G (fun (u : Int32 × Int32 × (Nat → Int32) × (Nat → Int32)) => post u.1 u.2.1 u.2.2.1 u.2.2.2) (fun u : Int32 × Int32 × (Nat → Int32) × (Nat → Int32) => wd_X5_becomeConjugation G h_this h_products h_quotients h_products_cells h_quotients_cells (u.1) (u.2.1) (u.2.2.1) (u.2.2.2)) A) args s 0 0 A) (F0 m 16 ls []) := by
  obtain ⟨hx, hb, hml, hown, hts, hr, hlocks⟩ := id C0
  intro fu
  induction fu with
  | zero => intro x2 a_products_cells hw; exact hw.elim
  | succ fu ih =>
    intro x2 a_products_cells hw H locs ls hP hD hS hl
    refine lv_iload_n hx hb dX5_becomeConjugation_16 rfl (lv_at hl 2 rfl) ?_
    refine lv_bipush (v := 6) hx hb dX5_becomeConjugation_17 (by decide) ?_
    refine lv_icmp_ge (tgt := 42) hx hb dX5_becomeConjugation_19 (by decide) (fun c_2 => ?_) (fun c_2 => ?_)
    · have hw := hw.1 c_2
      exact hKc a_products_cells hw _ _ _ hP hD hS (lv_sub hl [0, 1] rfl)
    · have hw := hw.2 c_2
      refine lv_aload_n hx hb dX5_becomeConjugation_22 rfl (lv_at hl 0 rfl) ?_
      refine va_get (D := G.1) (ci := 5) (v := .ref h_products) (C := RX5) (T := TX5) (N := 4) hx hb hts in_X5_becomeConjugation_X5 hown hE.1 hP 0 rfl rfl 1 (by decide) (hts (.fieldLink RX5 18 "QuandleColorings$Operation" "products" "LQuandleColorings$Grid;") lk_X5_becomeConjugation_18) (fun _ h9 => h9) rfl dX5_becomeConjugation_23 ?_
      refine lv_iload_n hx hb dX5_becomeConjugation_26 rfl (lv_at hl 1 rfl) ?_
      refine lv_iload_n hx hb dX5_becomeConjugation_27 rfl (lv_at hl 2 rfl) ?_
      refine lv_iload_n hx hb dX5_becomeConjugation_28 rfl (lv_at hl 1 rfl) ?_
      refine lv_iload_n hx hb dX5_becomeConjugation_29 rfl (lv_at hl 2 rfl) ?_
      have hC9 : ([] : List Nat).map (fun i => (wd_X5_becomeConjugation G h_this h_products h_quotients h_products_cells h_quotients_cells f_size f_badColumn a_products_cells a_quotients_cells)[i]?) = (wd_X5_conjugate G).map some := rfl
      refine qn_callI (wd := (fun u : Unit => wd_X5_becomeConjugation G h_this h_products h_quotients h_products_cells h_quotients_cells f_size f_badColumn a_products_cells a_quotients_cells)) [] (va_runS (As := [.int x1, .int x2]) (rest := [.int x2, .int x1, .ref h_products]) ⟨hx, hb, hml, hown, hts⟩ (c_X5_conjugate G _ x1 x2 h_st hw) (va_cwS 2 hts gX5_becomeConjugation_X5_conjugate rfl rfl rfl (by decide +kernel) ⟨Nat.le_of_ble_eq_true rfl, Nat.le_of_ble_eq_true rfl⟩) (qn_preSZ hE hP hD hZ hS hA [] hC9 (by decide +kernel)) rfl rfl hl.1 rfl (lv_room (Nat.le_of_ble_eq_true rfl)) dX5_becomeConjugation_30 ⟨Nat.le_of_ble_eq_true rfl, Nat.le_of_ble_eq_true rfl⟩) hP hD hS hA hC9 [none, none, none, none, none] (M := 5) rfl (by decide +kernel) (fun _ => rfl) (fun _ => rfl) (fun r_3 _ H locs hw hP hD hS => ?_)
      try dsimp only at hw
      have hP : va_P G.1 vwCl (wd_X5_becomeConjugation G h_this h_products h_quotients h_products_cells h_quotients_cells f_size f_badColumn a_products_cells a_quotients_cells) H := hP
      have hD : va_D A (wd_X5_becomeConjugation G h_this h_products h_quotients h_products_cells h_quotients_cells f_size f_badColumn a_products_cells a_quotients_cells) := hD
      have hC9 : ([1, 2]).map (fun i => (wd_X5_becomeConjugation G h_this h_products h_quotients h_products_cells h_quotients_cells f_size f_badColumn a_products_cells a_quotients_cells)[i]?) = (wd_X2_put G h_products h_products_cells a_products_cells).map some := rfl
      refine qn_callV (wd := (fun u : (Nat → Int32) => wd_X5_becomeConjugation G h_this h_products h_quotients h_products_cells h_quotients_cells f_size f_badColumn u a_quotients_cells)) [1, 2] (va_runV (As := [.int x1, .int x2, .int r_3]) (rest := []) ⟨hx, hb, hml, hown, hts⟩ (c_X2_put G _ h_products h_products_cells a_products_cells x1 x2 r_3 hw) (cwV 3 hts gX5_becomeConjugation_X2_put rfl rfl rfl (by decide +kernel) ⟨Nat.le_of_ble_eq_true rfl, Nat.le_of_ble_eq_true rfl⟩) (qn_preV hE hP hD [1, 2] hC9 (by decide +kernel) (ci := 2) rfl rfl) rfl rfl hl.1 rfl (lv_room (Nat.le_of_ble_eq_true rfl)) dX5_becomeConjugation_33 ⟨Nat.le_of_ble_eq_true rfl, Nat.le_of_ble_eq_true rfl⟩) hP hD hS hA hC9 [none, some 0, some 1, none, none] (M := 5) rfl (by decide +kernel) (fun _ => rfl) (fun _ => rfl) (fun a_products_cells_4 H locs hw hP hD hS => ?_)
      try dsimp only at hw
      have hP : va_P G.1 vwCl (wd_X5_becomeConjugation G h_this h_products h_quotients h_products_cells h_quotients_cells f_size f_badColumn a_products_cells_4 a_quotients_cells) H := hP
      have hD : va_D A (wd_X5_becomeConjugation G h_this h_products h_quotients h_products_cells h_quotients_cells f_size f_badColumn a_products_cells_4 a_quotients_cells) := hD
      obtain ⟨x2_5, ex2_5⟩ : ∃ y : Int32, y = x2 + 1 := ⟨_, rfl⟩
      have hw := hw x2_5 ex2_5
      refine lv_iinc (v := x2_5) (lv' := [(2, .int x2_5), (0, .ref h_this), (1, .int x1)]) hx hb dX5_becomeConjugation_36 hl (k := 2) rfl (by rw [ex2_5]; rfl) (by decide) rfl (fun ls hl => ?_)
      refine lv_goto (tgt := 16) hx hb dX5_becomeConjugation_39 (by decide) ?_
      exact ih x2_5 a_products_cells_4 hw _ _ _ hP hD hS (lv_sub hl [1, 2, 0] rfl)
set_option maxHeartbeats 4000000 in
set_option maxRecDepth 100000 in
theorem l_X5_becomeConjugation_8 {p : Program} {l : Launch} {e : Env} {s : State} {m : MethodId} {args : Array Value} {below : List Frame} {meth : Method} {c : Code} {G : qn_G} {A : Nat → Prop} {h_this h_products h_quotients h_products_cells h_quotients_cells : Nat} {h_st : Nat} {f_size : Int32} {f_badColumn : Int32} {a_quotients_cells : Nat → Int32} {post : Int32 → Int32 → (Nat → Int32) → (Nat → Int32) → Prop} {KL8 : (Nat → Int32) → Prop} (C0 : qn_C p m c cX5_becomeConjugation 3 s args wsX5_becomeConjugation RX5 meth none) (hE : qn_EV G s) (hA : ∀ q, s.heap.size ≤ q → A q) (hZ : qn_SP h_st A s s.heap) (hKc : ∀ (a_products_cells : Nat → Int32), KL8 a_products_cells → ∀ (H : Heap) (locs : List Loc) (ls : Array Slot), va_P G.1 vwCl (wd_X5_becomeConjugation G h_this h_products h_quotients h_products_cells h_quotients_cells f_size f_badColumn a_products_cells a_quotients_cells) H → va_D A (wd_X5_becomeConjugation G h_this h_products h_quotients h_products_cells h_quotients_cells f_size f_badColumn a_products_cells a_quotients_cells) → va_S A s.heap H locs → lv_has ls 3 [(0, .ref h_this)] → W p l e (headSpec wsX5_becomeConjugation rm_X5_becomeConjugation).room s m args below meth c H locs 0 0 (MQ below (qn_QV G (fun (u : Int32 × Int32 × (Nat → Int32) × (Nat → Int32)) => post u.1 u.2.1 u.2.2.1 u.2.2.2) (fun u : Int32 × Int32 × (Nat → Int32) × (Nat → Int32) => wd_X5_becomeConjugation G h_this h_products h_quotients h_products_cells h_quotients_cells (u.1) (u.2.1) (u.2.2.1) (u.2.2.2)) A) args s 0 0 A) (F0 m 48 ls [])) :
    ∀ (fu : Nat) (x1 : Int32) (a_products_cells : Nat → Int32), wp_X5_becomeConjugation_L8 KL8 fu x1 a_products_cells → ∀ (H : Heap) (locs : List Loc) (ls : Array Slot), va_P G.1 vwCl (wd_X5_becomeConjugation G h_this h_products h_quotients h_products_cells h_quotients_cells f_size f_badColumn a_products_cells a_quotients_cells) H → va_D A (wd_X5_becomeConjugation G h_this h_products h_quotients h_products_cells h_quotients_cells f_size f_badColumn a_products_cells a_quotients_cells) → va_S A s.heap H locs → lv_has ls 3 [(0, .ref h_this), (1, .int x1)] → W p l e (headSpec wsX5_becomeConjugation rm_X5_becomeConjugation).room s m args below meth c H locs 0 0 (MQ below (qn_QV G (fun (u : Int32 × Int32 × (Nat → Int32) × (Nat → Int32)) => post u.1 u.2.1 u.2.2.1 u.2.2.2) (fun u : Int32 × Int32 × (Nat → Int32) × (Nat → Int32) => wd_X5_becomeConjugation G h_this h_products h_quotients h_products_cells h_quotients_cells (u.1) (u.2.1) (u.2.2.1) (u.2.2.2)) A) args s 0 0 A) (F0 m 8 ls []) := by
  obtain ⟨hx, hb, hml, hown, hts, hr, hlocks⟩ := id C0
  intro fu
  induction fu with
  | zero => intro x1 a_products_cells hw; exact hw.elim
  | succ fu ih =>
    intro x1 a_products_cells hw H locs ls hP hD hS hl
    refine lv_iload_n hx hb dX5_becomeConjugation_8 rfl (lv_at hl 1 rfl) ?_
    refine lv_bipush (v := 6) hx hb dX5_becomeConjugation_9 (by decide) ?_
    refine lv_icmp_ge (tgt := 48) hx hb dX5_becomeConjugation_11 (by decide) (fun c_1 => ?_) (fun c_1 => ?_)
    · have hw := hw.1 c_1
      exact hKc a_products_cells hw _ _ _ hP hD hS (lv_sub hl [0] rfl)
    · have hw := hw.2 c_1
      refine lv_iconst (v := 0) hx hb dX5_becomeConjugation_14 (by decide) ?_
      refine lv_istore_n (lv' := [(2, .int 0), (0, .ref h_this), (1, .int x1)]) hx hb dX5_becomeConjugation_15 rfl hl (by decide) rfl (fun ls hl => ?_)
      obtain ⟨fu_8, hw⟩ := hw
      refine l_X5_becomeConjugation_16 (post := post) C0 hE hA hZ (fun a_products_cells_6 hw H locs ls hP hD hS hl => ?_) fu_8 0 a_products_cells hw _ _ _ hP hD hS (lv_sub hl [1, 2, 0] rfl)
      obtain ⟨x1_7, ex1_7⟩ : ∃ y : Int32, y = x1 + 1 := ⟨_, rfl⟩
      have hw := hw x1_7 ex1_7
      refine lv_iinc (v := x1_7) (lv' := [(1, .int x1_7), (0, .ref h_this)]) hx hb dX5_becomeConjugation_42 hl (k := 1) rfl (by rw [ex1_7]; rfl) (by decide) rfl (fun ls hl => ?_)
      refine lv_goto (tgt := 8) hx hb dX5_becomeConjugation_45 (by decide) ?_
      exact ih x1_7 a_products_cells_6 hw _ _ _ hP hD hS (lv_sub hl [1, 0] rfl)
set_option maxHeartbeats 4000000 in
set_option maxRecDepth 100000 in
theorem c_X5_becomeConjugation {l : Launch} (G : qn_G) (sz : Nat) (h_this h_products h_quotients h_products_cells h_quotients_cells : Nat) (f_size : Int32) (f_badColumn : Int32) (a_products_cells : Nat → Int32) (a_quotients_cells : Nat → Int32) (h_st : Nat) {post : Int32 → Int32 → (Nat → Int32) → (Nat → Int32) → Prop} (hw : wp_X5_becomeConjugation post a_products_cells a_quotients_cells) : Met l yX5_becomeConjugation wsX5_becomeConjugation rm_X5_becomeConjugation (qn_PCZ h_st G [.ref h_this] sz (wd_X5_becomeConjugation G h_this h_products h_quotients h_products_cells h_quotients_cells f_size f_badColumn a_products_cells a_quotients_cells)) (qn_QV G (fun (u : Int32 × Int32 × (Nat → Int32) × (Nat → Int32)) => post u.1 u.2.1 u.2.2.1 u.2.2.2) (fun u : Int32 × Int32 × (Nat → Int32) × (Nat → Int32) => wd_X5_becomeConjugation G h_this h_products h_quotients h_products_cells h_quotients_cells (u.1) (u.2.1) (u.2.2.1) (u.2.2.2)) (va_A (wd_X5_becomeConjugation G h_this h_products h_quotients h_products_cells h_quotients_cells f_size f_badColumn a_products_cells a_quotients_cells) sz)) 0 0 (va_A (wd_X5_becomeConjugation G h_this h_products h_quotients h_products_cells h_quotients_cells f_size f_badColumn a_products_cells a_quotients_cells) sz) := by
  refine Met.ofW (cc := cX5_becomeConjugation) (maxL := 3) (ret := none) (by decide) rfl ?_
  intro p e s m args below meth c s₁ B hml hv
  obtain ⟨rfl, hsz, hP, hE, hD0, hZ⟩ := hv
  have C0 : qn_C p m c cX5_becomeConjugation 3 s _ wsX5_becomeConjugation RX5 meth none := qn_C0 B hml
  obtain ⟨hx, hb, -, hown, hts, hr, hlocks⟩ := id C0
  subst hsz
  have hD := hD0.self (sz := s.heap.size)
  generalize hAe : va_A (wd_X5_becomeConjugation G h_this h_products h_quotients h_products_cells h_quotients_cells f_size f_badColumn a_products_cells a_quotients_cells) s.heap.size = A at hD hZ ⊢
  have hA : ∀ q : Nat, s.heap.size ≤ q → A q := fun q h => by rw [← hAe]; exact Or.inr h
  clear hAe
  have hS : va_S A s.heap s.heap [] := va_S.rf
  have hl := lv_entry ([.ref h_this]) (n := 3) (Nat.le_of_ble_eq_true rfl)
  rw [lg_entry_eq]
  generalize (lg_sl ([.ref h_this]) ++ List.replicate (3 - (lg_sl ([.ref h_this])).length) Slot.unset).toArray = ls at hl ⊢
  have hl : lv_has ls 3 [(0, .ref h_this)] := hl
  have hP : va_P G.1 vwCl (wd_X5_becomeConjugation G h_this h_products h_quotients h_products_cells h_quotients_cells f_size f_badColumn a_products_cells a_quotients_cells) s.heap := hP
  refine lv_aload_n hx hb dX5_becomeConjugation_0 rfl (lv_at hl 0 rfl) ?_
  refine lv_bipush (v := 6) hx hb dX5_becomeConjugation_1 (by decide) ?_
  refine va_put (D := G.1) (ci := 5) (v := .int 6) (ty := .int) (C := RX5) (T := TX5) (N := 4) hx hb hts in_X5_becomeConjugation_X5 tyX5 tyX5_ok nmX5 hown hE.1 hP hD hS 0 rfl rfl 0 (by decide) (hts (.fieldLink RX5 9 "QuandleColorings$Operation" "size" "I") lk_X5_becomeConjugation_9) (fun _ h9 => h9) rfl (by decide +kernel) rfl rfl (Nat.le_of_ble_eq_true rfl) dX5_becomeConjugation_3 (fun H locs hP hD hS => ?_)
  have hP : va_P G.1 vwCl (wd_X5_becomeConjugation G h_this h_products h_quotients h_products_cells h_quotients_cells 6 f_badColumn a_products_cells a_quotients_cells) H := hP
  have hD : va_D A (wd_X5_becomeConjugation G h_this h_products h_quotients h_products_cells h_quotients_cells 6 f_badColumn a_products_cells a_quotients_cells) := hD
  refine lv_iconst (v := 0) hx hb dX5_becomeConjugation_6 (by decide) ?_
  refine lv_istore_n (lv' := [(1, .int 0), (0, .ref h_this)]) hx hb dX5_becomeConjugation_7 rfl hl (by decide) rfl (fun ls hl => ?_)
  obtain ⟨fu_13, hw⟩ := hw
  refine l_X5_becomeConjugation_8 (post := post) C0 hE hA hZ (fun a_products_cells_9 hw H locs ls hP hD hS hl => ?_) fu_13 0 a_products_cells hw _ _ _ hP hD hS (lv_sub hl [1, 0] rfl)
  refine lv_aload_n hx hb dX5_becomeConjugation_48 rfl (lv_at hl 0 rfl) ?_
  have hC9 : ([0, 1, 2, 3, 4]).map (fun i => (wd_X5_becomeConjugation G h_this h_products h_quotients h_products_cells h_quotients_cells 6 f_badColumn a_products_cells_9 a_quotients_cells)[i]?) = (wd_X5_refreshQuotients G h_this h_products h_quotients h_products_cells h_quotients_cells 6 f_badColumn a_products_cells_9 a_quotients_cells).map some := rfl
  refine qn_callV (wd := (fun u : Int32 × (Nat → Int32) => wd_X5_becomeConjugation G h_this h_products h_quotients h_products_cells h_quotients_cells 6 (u.1) a_products_cells_9 (u.2))) [0, 1, 2, 3, 4] (va_runV (As := []) (rest := []) ⟨hx, hb, hml, hown, hts⟩ (c_X5_refreshQuotients G _ h_this h_products h_quotients h_products_cells h_quotients_cells 6 f_badColumn a_products_cells_9 a_quotients_cells hw) (cwV 0 hts gX5_becomeConjugation_X5_refreshQuotients rfl rfl rfl (by decide +kernel) ⟨Nat.le_of_ble_eq_true rfl, Nat.le_of_ble_eq_true rfl⟩) (qn_preV hE hP hD [0, 1, 2, 3, 4] hC9 (by decide +kernel) (ci := 5) rfl rfl) rfl rfl hl.1 rfl (lv_room (Nat.le_of_ble_eq_true rfl)) dX5_becomeConjugation_49 ⟨Nat.le_of_ble_eq_true rfl, Nat.le_of_ble_eq_true rfl⟩) hP hD hS hA hC9 [some 0, some 1, some 2, some 3, some 4] (M := 5) rfl (by decide +kernel) (fun _ => rfl) (fun _ => rfl) (fun u_12 H locs hw hP hD hS => ?_)
  obtain ⟨f_badColumn_10, a_quotients_cells_11⟩ := u_12
  try dsimp only at hw
  have hP : va_P G.1 vwCl (wd_X5_becomeConjugation G h_this h_products h_quotients h_products_cells h_quotients_cells 6 f_badColumn_10 a_products_cells_9 a_quotients_cells_11) H := hP
  have hD : va_D A (wd_X5_becomeConjugation G h_this h_products h_quotients h_products_cells h_quotients_cells 6 f_badColumn_10 a_products_cells_9 a_quotients_cells_11) := hD
  exact W.vret hx hb hr (fun t ht hW => ⟨⟨(6, f_badColumn_10, a_products_cells_9, a_quotients_cells_11), rfl, hw, by rw [ht]; exact hP, hD⟩, hS.F ht⟩) hS.2.2 dX5_becomeConjugation_52
-- QuandleColorings$Operation.becomeDual()V
abbrev rm_X5_becomeDual : Room := { frames := 4, cells := 0, slots := 0, locals := 89 }
abbrev wd_X5_becomeDual (G : qn_G) (h_this h_products h_quotients h_products_cells h_quotients_cells : Nat) (f_size : Int32) (f_badColumn : Int32) (a_products_cells : Nat → Int32) (a_quotients_cells : Nat → Int32) : va_W := [(h_this, .inr (5, [.int f_size, .ref h_products, .ref h_quotients, .int f_badColumn])), (h_products, .inr (2, [.ref h_products_cells])), (h_products_cells, .inl (G.2.1, 36, .inl a_products_cells)), (h_quotients, .inr (2, [.ref h_quotients_cells])), (h_quotients_cells, .inl (G.2.1, 36, .inl a_quotients_cells))]
theorem in_X5_becomeDual_X5 : ∀ w ∈ u_ws RX5 TX5 4, w ∈ wsX5_becomeDual := by decide +kernel
theorem lk_X5_becomeDual_18 : Cond.fieldLink RX5 18 "QuandleColorings$Operation" "products" "LQuandleColorings$Grid;" ∈ wsX5_becomeDual := by decide +kernel
theorem lk_X5_becomeDual_22 : Cond.fieldLink RX5 22 "QuandleColorings$Operation" "quotients" "LQuandleColorings$Grid;" ∈ wsX5_becomeDual := by decide +kernel
def wp_X5_becomeDual (post : Int32 → (Nat → Int32) → (Nat → Int32) → Prop) (f_size : Int32) (a_products_cells : Nat → Int32) (a_quotients_cells : Nat → Int32) : Prop := (wp_X2_copyFrom (fun (a_products_cells_1 : Nat → Int32) => (wp_X5_refreshQuotients (fun (f_badColumn_2 : Int32) (a_quotients_cells_3 : Nat → Int32) => (post f_badColumn_2 a_products_cells_1 a_quotients_cells_3)) f_size a_products_cells_1 a_quotients_cells)) a_products_cells a_quotients_cells)
set_option maxHeartbeats 4000000 in
set_option maxRecDepth 100000 in
theorem c_X5_becomeDual {l : Launch} (G : qn_G) (sz : Nat) (h_this h_products h_quotients h_products_cells h_quotients_cells : Nat) (f_size : Int32) (f_badColumn : Int32) (a_products_cells : Nat → Int32) (a_quotients_cells : Nat → Int32) {post : Int32 → (Nat → Int32) → (Nat → Int32) → Prop} (hw : wp_X5_becomeDual post f_size a_products_cells a_quotients_cells) : Met l yX5_becomeDual wsX5_becomeDual rm_X5_becomeDual (qn_PC G [.ref h_this] sz (wd_X5_becomeDual G h_this h_products h_quotients h_products_cells h_quotients_cells f_size f_badColumn a_products_cells a_quotients_cells)) (qn_QV G (fun (u : Int32 × (Nat → Int32) × (Nat → Int32)) => post u.1 u.2.1 u.2.2) (fun u : Int32 × (Nat → Int32) × (Nat → Int32) => wd_X5_becomeDual G h_this h_products h_quotients h_products_cells h_quotients_cells f_size (u.1) (u.2.1) (u.2.2)) (va_A (wd_X5_becomeDual G h_this h_products h_quotients h_products_cells h_quotients_cells f_size f_badColumn a_products_cells a_quotients_cells) sz)) 0 0 (va_A (wd_X5_becomeDual G h_this h_products h_quotients h_products_cells h_quotients_cells f_size f_badColumn a_products_cells a_quotients_cells) sz) := by
  refine Met.ofW (cc := cX5_becomeDual) (maxL := 1) (ret := none) (by decide) rfl ?_
  intro p e s m args below meth c s₁ B hml hv
  obtain ⟨rfl, hsz, hP, hE, hD0⟩ := hv
  have C0 : qn_C p m c cX5_becomeDual 1 s _ wsX5_becomeDual RX5 meth none := qn_C0 B hml
  obtain ⟨hx, hb, -, hown, hts, hr, hlocks⟩ := id C0
  subst hsz
  have hD := hD0.self (sz := s.heap.size)
  generalize hAe : va_A (wd_X5_becomeDual G h_this h_products h_quotients h_products_cells h_quotients_cells f_size f_badColumn a_products_cells a_quotients_cells) s.heap.size = A at hD ⊢
  have hA : ∀ q : Nat, s.heap.size ≤ q → A q := fun q h => by rw [← hAe]; exact Or.inr h
  clear hAe
  have hS : va_S A s.heap s.heap [] := va_S.rf
  have hl := lv_entry ([.ref h_this]) (n := 1) (Nat.le_of_ble_eq_true rfl)
  rw [lg_entry_eq]
  generalize (lg_sl ([.ref h_this]) ++ List.replicate (1 - (lg_sl ([.ref h_this])).length) Slot.unset).toArray = ls at hl ⊢
  have hl : lv_has ls 1 [(0, .ref h_this)] := hl
  have hP : va_P G.1 vwCl (wd_X5_becomeDual G h_this h_products h_quotients h_products_cells h_quotients_cells f_size f_badColumn a_products_cells a_quotients_cells) s.heap := hP
  refine lv_aload_n hx hb dX5_becomeDual_0 rfl (lv_at hl 0 rfl) ?_
  refine va_get (D := G.1) (ci := 5) (v := .ref h_products) (C := RX5) (T := TX5) (N := 4) hx hb hts in_X5_becomeDual_X5 hown hE.1 hP 0 rfl rfl 1 (by decide) (hts (.fieldLink RX5 18 "QuandleColorings$Operation" "products" "LQuandleColorings$Grid;") lk_X5_becomeDual_18) (fun _ h9 => h9) rfl dX5_becomeDual_1 ?_
  refine lv_aload_n hx hb dX5_becomeDual_4 rfl (lv_at hl 0 rfl) ?_
  refine va_get (D := G.1) (ci := 5) (v := .ref h_quotients) (C := RX5) (T := TX5) (N := 4) hx hb hts in_X5_becomeDual_X5 hown hE.1 hP 0 rfl rfl 2 (by decide) (hts (.fieldLink RX5 22 "QuandleColorings$Operation" "quotients" "LQuandleColorings$Grid;") lk_X5_becomeDual_22) (fun _ h9 => h9) rfl dX5_becomeDual_5 ?_
  have hC9 : ([1, 2, 3, 4]).map (fun i => (wd_X5_becomeDual G h_this h_products h_quotients h_products_cells h_quotients_cells f_size f_badColumn a_products_cells a_quotients_cells)[i]?) = (wd_X2_copyFrom G h_products h_products_cells h_quotients h_quotients_cells a_products_cells a_quotients_cells).map some := rfl
  refine qn_callV (wd := (fun u : (Nat → Int32) => wd_X5_becomeDual G h_this h_products h_quotients h_products_cells h_quotients_cells f_size f_badColumn u a_quotients_cells)) [1, 2, 3, 4] (va_runV (As := [.ref h_quotients]) (rest := []) ⟨hx, hb, hml, hown, hts⟩ (c_X2_copyFrom G _ h_products h_products_cells h_quotients h_quotients_cells a_products_cells a_quotients_cells hw) (cwV 1 hts gX5_becomeDual_X2_copyFrom rfl rfl rfl (by decide +kernel) ⟨Nat.le_of_ble_eq_true rfl, Nat.le_of_ble_eq_true rfl⟩) (qn_preV hE hP hD [1, 2, 3, 4] hC9 (by decide +kernel) (ci := 2) rfl rfl) rfl rfl hl.1 rfl (lv_room (Nat.le_of_ble_eq_true rfl)) dX5_becomeDual_8 ⟨Nat.le_of_ble_eq_true rfl, Nat.le_of_ble_eq_true rfl⟩) hP hD hS hA hC9 [none, some 0, some 1, some 2, some 3] (M := 5) rfl (by decide +kernel) (fun _ => rfl) (fun _ => rfl) (fun a_products_cells_1 H locs hw hP hD hS => ?_)
  try dsimp only at hw
  have hP : va_P G.1 vwCl (wd_X5_becomeDual G h_this h_products h_quotients h_products_cells h_quotients_cells f_size f_badColumn a_products_cells_1 a_quotients_cells) H := hP
  have hD : va_D A (wd_X5_becomeDual G h_this h_products h_quotients h_products_cells h_quotients_cells f_size f_badColumn a_products_cells_1 a_quotients_cells) := hD
  refine lv_aload_n hx hb dX5_becomeDual_11 rfl (lv_at hl 0 rfl) ?_
  have hC9 : ([0, 1, 2, 3, 4]).map (fun i => (wd_X5_becomeDual G h_this h_products h_quotients h_products_cells h_quotients_cells f_size f_badColumn a_products_cells_1 a_quotients_cells)[i]?) = (wd_X5_refreshQuotients G h_this h_products h_quotients h_products_cells h_quotients_cells f_size f_badColumn a_products_cells_1 a_quotients_cells).map some := rfl
  refine qn_callV (wd := (fun u : Int32 × (Nat → Int32) => wd_X5_becomeDual G h_this h_products h_quotients h_products_cells h_quotients_cells f_size (u.1) a_products_cells_1 (u.2))) [0, 1, 2, 3, 4] (va_runV (As := []) (rest := []) ⟨hx, hb, hml, hown, hts⟩ (c_X5_refreshQuotients G _ h_this h_products h_quotients h_products_cells h_quotients_cells f_size f_badColumn a_products_cells_1 a_quotients_cells hw) (cwV 0 hts gX5_becomeDual_X5_refreshQuotients rfl rfl rfl (by decide +kernel) ⟨Nat.le_of_ble_eq_true rfl, Nat.le_of_ble_eq_true rfl⟩) (qn_preV hE hP hD [0, 1, 2, 3, 4] hC9 (by decide +kernel) (ci := 5) rfl rfl) rfl rfl hl.1 rfl (lv_room (Nat.le_of_ble_eq_true rfl)) dX5_becomeDual_12 ⟨Nat.le_of_ble_eq_true rfl, Nat.le_of_ble_eq_true rfl⟩) hP hD hS hA hC9 [some 0, some 1, some 2, some 3, some 4] (M := 5) rfl (by decide +kernel) (fun _ => rfl) (fun _ => rfl) (fun u_4 H locs hw hP hD hS => ?_)
  obtain ⟨f_badColumn_2, a_quotients_cells_3⟩ := u_4
  try dsimp only at hw
  have hP : va_P G.1 vwCl (wd_X5_becomeDual G h_this h_products h_quotients h_products_cells h_quotients_cells f_size f_badColumn_2 a_products_cells_1 a_quotients_cells_3) H := hP
  have hD : va_D A (wd_X5_becomeDual G h_this h_products h_quotients h_products_cells h_quotients_cells f_size f_badColumn_2 a_products_cells_1 a_quotients_cells_3) := hD
  exact W.vret hx hb hr (fun t ht hW => ⟨⟨(f_badColumn_2, a_products_cells_1, a_quotients_cells_3), rfl, hw, by rw [ht]; exact hP, hD⟩, hS.F ht⟩) hS.2.2 dX5_becomeDual_15
-- QuandleColorings.tripleCode(III)I
abbrev rm_X9_tripleCode : Room := { frames := 0, cells := 0, slots := 0, locals := 0 }
abbrev wd_X9_tripleCode (G : qn_G) : va_W := []
def wp_X9_tripleCode (post : Int32 → Prop) (x0 : Int32) (x1 : Int32) (x2 : Int32) : Prop := (post (((36 * x0) + (6 * x1)) + x2))
set_option maxHeartbeats 4000000 in
set_option maxRecDepth 100000 in
theorem c_X9_tripleCode {l : Launch} (G : qn_G) (sz : Nat) (x0 : Int32) (x1 : Int32) (x2 : Int32) {post : Int32 → Prop} (hw : wp_X9_tripleCode post x0 x1 x2) : Met l yX9_tripleCode wsX9_tripleCode rm_X9_tripleCode (qn_PC G [.int x0, .int x1, .int x2] sz (wd_X9_tripleCode G)) (qn_QI G (fun (r : Int32) (u : Unit) => post r) (fun u : Unit => wd_X9_tripleCode G) (va_A (wd_X9_tripleCode G) sz)) 0 0 (va_A (wd_X9_tripleCode G) sz) := by
  refine Met.ofW (cc := cX9_tripleCode) (maxL := 3) (ret := (some .int)) (by decide) rfl ?_
  intro p e s m args below meth c s₁ B hml hv
  obtain ⟨rfl, hsz, hP, hE, hD0⟩ := hv
  have C0 : qn_C p m c cX9_tripleCode 3 s _ wsX9_tripleCode RX9 meth (some .int) := qn_C0 B hml
  obtain ⟨hx, hb, -, hown, hts, hr, hlocks⟩ := id C0
  subst hsz
  have hD := hD0.self (sz := s.heap.size)
  generalize hAe : va_A (wd_X9_tripleCode G) s.heap.size = A at hD ⊢
  have hA : ∀ q : Nat, s.heap.size ≤ q → A q := fun q h => by rw [← hAe]; exact Or.inr h
  clear hAe
  have hS : va_S A s.heap s.heap [] := va_S.rf
  have hl := lv_entry ([.int x0, .int x1, .int x2]) (n := 3) (Nat.le_of_ble_eq_true rfl)
  rw [lg_entry_eq]
  generalize (lg_sl ([.int x0, .int x1, .int x2]) ++ List.replicate (3 - (lg_sl ([.int x0, .int x1, .int x2])).length) Slot.unset).toArray = ls at hl ⊢
  have hl : lv_has ls 3 [(0, .int x0), (1, .int x1), (2, .int x2)] := hl
  have hP : va_P G.1 vwCl (wd_X9_tripleCode G) s.heap := hP
  refine lv_bipush (v := 36) hx hb dX9_tripleCode_0 (by decide) ?_
  refine lv_iload_n hx hb dX9_tripleCode_2 rfl (lv_at hl 0 rfl) ?_
  refine lv_imul hx hb dX9_tripleCode_3 ?_
  refine lv_bipush (v := 6) hx hb dX9_tripleCode_4 (by decide) ?_
  refine lv_iload_n hx hb dX9_tripleCode_6 rfl (lv_at hl 1 rfl) ?_
  refine lv_imul hx hb dX9_tripleCode_7 ?_
  refine lv_iadd hx hb dX9_tripleCode_8 ?_
  refine lv_iload_n hx hb dX9_tripleCode_9 rfl (lv_at hl 2 rfl) ?_
  refine lv_iadd hx hb dX9_tripleCode_10 ?_
  exact W.iret (v := (((36 * x0) + (6 * x1)) + x2)) hx hb hr (fun t ht hW => ⟨⟨(((36 * x0) + (6 * x1)) + x2), (), rfl, hw, by rw [ht]; exact hP, hD⟩, hS.F ht⟩) hS.2.2 dX9_tripleCode_11
-- QuandleColorings$Operation.firstUndistributive()I
abbrev rm_X5_firstUndistributive : Room := { frames := 3, cells := 0, slots := 0, locals := 65 }
abbrev wd_X5_firstUndistributive (G : qn_G) (h_this h_products h_quotients h_products_cells : Nat) (f_size : Int32) (f_badColumn : Int32) (a_products_cells : Nat → Int32) : va_W := [(h_this, .inr (5, [.int f_size, .ref h_products, .ref h_quotients, .int f_badColumn])), (h_products, .inr (2, [.ref h_products_cells])), (h_products_cells, .inl (G.2.1, 36, .inl a_products_cells))]
theorem in_X5_firstUndistributive_X5 : ∀ w ∈ u_ws RX5 TX5 4, w ∈ wsX5_firstUndistributive := by decide +kernel
theorem lk_X5_firstUndistributive_9 : Cond.fieldLink RX5 9 "QuandleColorings$Operation" "size" "I" ∈ wsX5_firstUndistributive := by decide +kernel
def wp_X5_firstUndistributive_L22 (post : Int32 → Prop) (KL22 : Prop) (x1 : Int32) (x2 : Int32) (f_size : Int32) (a_products_cells : Nat → Int32) : Nat → Int32 → Prop
  | 0 => fun _ => False
  | fu + 1 => fun x3 => ((f_size ≤ x3 → KL22) ∧ (¬ f_size ≤ x3 → (wp_X5_product (fun (r_4 : Int32) => (wp_X5_product (fun (r_5 : Int32) => (wp_X5_product (fun (r_6 : Int32) => (wp_X5_product (fun (r_7 : Int32) => (wp_X5_product (fun (r_8 : Int32) => ((r_5 = r_8 → (∀ x3_10 : Int32, x3_10 = x3 + 1 → ((wp_X5_firstUndistributive_L22 post KL22 x1 x2 f_size a_products_cells fu) x3_10))) ∧ (¬ r_5 = r_8 → (wp_X9_tripleCode (fun (r_11 : Int32) => (post r_11)) x1 x2 x3)))) a_products_cells r_6 r_7)) a_products_cells x2 x3)) a_products_cells x1 x3)) a_products_cells r_4 x3)) a_products_cells x1 x2)))
def wp_X5_firstUndistributive_L12 (post : Int32 → Prop) (KL12 : Prop) (x1 : Int32) (f_size : Int32) (a_products_cells : Nat → Int32) : Nat → Int32 → Prop
  | 0 => fun _ => False
  | fu + 1 => fun x2 => ((f_size ≤ x2 → KL12) ∧ (¬ f_size ≤ x2 → (∃ fu_13 : Nat, wp_X5_firstUndistributive_L22 post (∀ x2_12 : Int32, x2_12 = x2 + 1 → ((wp_X5_firstUndistributive_L12 post KL12 x1 f_size a_products_cells fu) x2_12)) x1 x2 f_size a_products_cells fu_13 0)))
def wp_X5_firstUndistributive_L2 (post : Int32 → Prop) (KL2 : Prop) (f_size : Int32) (a_products_cells : Nat → Int32) : Nat → Int32 → Prop
  | 0 => fun _ => False
  | fu + 1 => fun x1 => ((f_size ≤ x1 → KL2) ∧ (¬ f_size ≤ x1 → (∃ fu_15 : Nat, wp_X5_firstUndistributive_L12 post (∀ x1_14 : Int32, x1_14 = x1 + 1 → ((wp_X5_firstUndistributive_L2 post KL2 f_size a_products_cells fu) x1_14)) x1 f_size a_products_cells fu_15 0)))
def wp_X5_firstUndistributive (post : Int32 → Prop) (f_size : Int32) (a_products_cells : Nat → Int32) : Prop := (∃ fu_16 : Nat, wp_X5_firstUndistributive_L2 post (post (-4)) f_size a_products_cells fu_16 0)
set_option maxHeartbeats 4000000 in
set_option maxRecDepth 100000 in
theorem l_X5_firstUndistributive_22 {p : Program} {l : Launch} {e : Env} {s : State} {m : MethodId} {args : Array Value} {below : List Frame} {meth : Method} {c : Code} {G : qn_G} {A : Nat → Prop} {h_this h_products h_quotients h_products_cells : Nat} {f_size : Int32} {f_badColumn : Int32} {a_products_cells : Nat → Int32} {x1 : Int32} {x2 : Int32} {post : Int32 → Prop} {KL22 : Prop} (C0 : qn_C p m c cX5_firstUndistributive 4 s args wsX5_firstUndistributive RX5 meth (some .int)) (hE : qn_EV G s) (hA : ∀ q, s.heap.size ≤ q → A q) (hKc : KL22 → ∀ (H : Heap) (locs : List Loc) (ls : Array Slot), va_P G.1 vwCl (wd_X5_firstUndistributive G h_this h_products h_quotients h_products_cells f_size f_badColumn a_products_cells) H → va_D A (wd_X5_firstUndistributive G h_this h_products h_quotients h_products_cells f_size f_badColumn a_products_cells) → va_S A s.heap H locs → lv_has ls 4 [(0, .ref h_this), (1, .int x1), (2, .int x2)] → W p l e (headSpec wsX5_firstUndistributive rm_X5_firstUndistributive).room s m args below meth c H locs 0 0 (MQ below (qn_QI G (fun (r : Int32) (u : Unit) => post r) (fun u : Unit => wd_X5_firstUndistributive G h_this h_products h_quotients h_products_cells f_size f_badColumn a_products_cells) A) args s 0 0 A) (F0 m 73 ls [])) :
    ∀ (fu : Nat) (x3 : Int32), wp_X5_firstUndistributive_L22 post KL22 x1 x2 f_size a_products_cells fu x3 → ∀ (H : Heap) (locs : List Loc) (ls : Array Slot), va_P G.1 vwCl (wd_X5_firstUndistributive G h_this h_products h_quotients h_products_cells f_size f_badColumn a_products_cells) H → va_D A (wd_X5_firstUndistributive G h_this h_products h_quotients h_products_cells f_size f_badColumn a_products_cells) → va_S A s.heap H locs → lv_has ls 4 [(0, .ref h_this), (1, .int x1), (2, .int x2), (3, .int x3)] → W p l e (headSpec wsX5_firstUndistributive rm_X5_firstUndistributive).room s m args below meth c H locs 0 0 (MQ below (qn_QI G (fun (r : Int32) (u : Unit) => post r) (fun u : Unit => wd_X5_firstUndistributive G h_this h_products h_quotients h_products_cells f_size f_badColumn a_products_cells) A) args s 0 0 A) (F0 m 22 ls []) := by
  obtain ⟨hx, hb, hml, hown, hts, hr, hlocks⟩ := id C0
  intro fu
  induction fu with
  | zero => intro x3 hw; exact hw.elim
  | succ fu ih =>
    intro x3 hw H locs ls hP hD hS hl
    refine lv_iload_n hx hb dX5_firstUndistributive_22 rfl (lv_at hl 3 rfl) ?_
    refine lv_aload_n hx hb dX5_firstUndistributive_23 rfl (lv_at hl 0 rfl) ?_
    refine va_get (D := G.1) (ci := 5) (v := .int f_size) (C := RX5) (T := TX5) (N := 4) hx hb hts in_X5_firstUndistributive_X5 hown hE.1 hP 0 rfl rfl 0 (by decide) (hts (.fieldLink RX5 9 "QuandleColorings$Operation" "size" "I") lk_X5_firstUndistributive_9) (fun _ h9 => h9) rfl dX5_firstUndistributive_24 ?_
    refine lv_icmp_ge (tgt := 73) hx hb dX5_firstUndistributive_27 (by decide) (fun c_3 => ?_) (fun c_3 => ?_)
    · have hw := hw.1 c_3
      exact hKc  hw _ _ _ hP hD hS (lv_sub hl [0, 1, 2] rfl)
    · have hw := hw.2 c_3
      refine lv_aload_n hx hb dX5_firstUndistributive_30 rfl (lv_at hl 0 rfl) ?_
      refine lv_aload_n hx hb dX5_firstUndistributive_31 rfl (lv_at hl 0 rfl) ?_
      refine lv_iload_n hx hb dX5_firstUndistributive_32 rfl (lv_at hl 1 rfl) ?_
      refine lv_iload_n hx hb dX5_firstUndistributive_33 rfl (lv_at hl 2 rfl) ?_
      have hC9 : ([0, 1, 2]).map (fun i => (wd_X5_firstUndistributive G h_this h_products h_quotients h_products_cells f_size f_badColumn a_products_cells)[i]?) = (wd_X5_product G h_this h_products h_quotients h_products_cells f_size f_badColumn a_products_cells).map some := rfl
      refine qn_callI (wd := (fun u : Unit => wd_X5_firstUndistributive G h_this h_products h_quotients h_products_cells f_size f_badColumn a_products_cells)) [0, 1, 2] (va_runV (As := [.int x1, .int x2]) (rest := [.ref h_this]) ⟨hx, hb, hml, hown, hts⟩ (c_X5_product G _ h_this h_products h_quotients h_products_cells f_size f_badColumn a_products_cells x1 x2 hw) (cwV 2 hts gX5_firstUndistributive_X5_product rfl rfl rfl (by decide +kernel) ⟨Nat.le_of_ble_eq_true rfl, Nat.le_of_ble_eq_true rfl⟩) (qn_preV hE hP hD [0, 1, 2] hC9 (by decide +kernel) (ci := 5) rfl rfl) rfl rfl hl.1 rfl (lv_room (Nat.le_of_ble_eq_true rfl)) dX5_firstUndistributive_34 ⟨Nat.le_of_ble_eq_true rfl, Nat.le_of_ble_eq_true rfl⟩) hP hD hS hA hC9 [some 0, some 1, some 2] (M := 3) rfl (by decide +kernel) (fun _ => rfl) (fun _ => rfl) (fun r_4 _ H locs hw hP hD hS => ?_)
      try dsimp only at hw
      have hP : va_P G.1 vwCl (wd_X5_firstUndistributive G h_this h_products h_quotients h_products_cells f_size f_badColumn a_products_cells) H := hP
      have hD : va_D A (wd_X5_firstUndistributive G h_this h_products h_quotients h_products_cells f_size f_badColumn a_products_cells) := hD
      refine lv_iload_n hx hb dX5_firstUndistributive_37 rfl (lv_at hl 3 rfl) ?_
      have hC9 : ([0, 1, 2]).map (fun i => (wd_X5_firstUndistributive G h_this h_products h_quotients h_products_cells f_size f_badColumn a_products_cells)[i]?) = (wd_X5_product G h_this h_products h_quotients h_products_cells f_size f_badColumn a_products_cells).map some := rfl
      refine qn_callI (wd := (fun u : Unit => wd_X5_firstUndistributive G h_this h_products h_quotients h_products_cells f_size f_badColumn a_products_cells)) [0, 1, 2] (va_runV (As := [.int r_4, .int x3]) (rest := []) ⟨hx, hb, hml, hown, hts⟩ (c_X5_product G _ h_this h_products h_quotients h_products_cells f_size f_badColumn a_products_cells r_4 x3 hw) (cwV 2 hts gX5_firstUndistributive_X5_product rfl rfl rfl (by decide +kernel) ⟨Nat.le_of_ble_eq_true rfl, Nat.le_of_ble_eq_true rfl⟩) (qn_preV hE hP hD [0, 1, 2] hC9 (by decide +kernel) (ci := 5) rfl rfl) rfl rfl hl.1 rfl (lv_room (Nat.le_of_ble_eq_true rfl)) dX5_firstUndistributive_38 ⟨Nat.le_of_ble_eq_true rfl, Nat.le_of_ble_eq_true rfl⟩) hP hD hS hA hC9 [some 0, some 1, some 2] (M := 3) rfl (by decide +kernel) (fun _ => rfl) (fun _ => rfl) (fun r_5 _ H locs hw hP hD hS => ?_)
      try dsimp only at hw
      have hP : va_P G.1 vwCl (wd_X5_firstUndistributive G h_this h_products h_quotients h_products_cells f_size f_badColumn a_products_cells) H := hP
      have hD : va_D A (wd_X5_firstUndistributive G h_this h_products h_quotients h_products_cells f_size f_badColumn a_products_cells) := hD
      refine lv_aload_n hx hb dX5_firstUndistributive_41 rfl (lv_at hl 0 rfl) ?_
      refine lv_aload_n hx hb dX5_firstUndistributive_42 rfl (lv_at hl 0 rfl) ?_
      refine lv_iload_n hx hb dX5_firstUndistributive_43 rfl (lv_at hl 1 rfl) ?_
      refine lv_iload_n hx hb dX5_firstUndistributive_44 rfl (lv_at hl 3 rfl) ?_
      have hC9 : ([0, 1, 2]).map (fun i => (wd_X5_firstUndistributive G h_this h_products h_quotients h_products_cells f_size f_badColumn a_products_cells)[i]?) = (wd_X5_product G h_this h_products h_quotients h_products_cells f_size f_badColumn a_products_cells).map some := rfl
      refine qn_callI (wd := (fun u : Unit => wd_X5_firstUndistributive G h_this h_products h_quotients h_products_cells f_size f_badColumn a_products_cells)) [0, 1, 2] (va_runV (As := [.int x1, .int x3]) (rest := [.ref h_this, .int r_5]) ⟨hx, hb, hml, hown, hts⟩ (c_X5_product G _ h_this h_products h_quotients h_products_cells f_size f_badColumn a_products_cells x1 x3 hw) (cwV 2 hts gX5_firstUndistributive_X5_product rfl rfl rfl (by decide +kernel) ⟨Nat.le_of_ble_eq_true rfl, Nat.le_of_ble_eq_true rfl⟩) (qn_preV hE hP hD [0, 1, 2] hC9 (by decide +kernel) (ci := 5) rfl rfl) rfl rfl hl.1 rfl (lv_room (Nat.le_of_ble_eq_true rfl)) dX5_firstUndistributive_45 ⟨Nat.le_of_ble_eq_true rfl, Nat.le_of_ble_eq_true rfl⟩) hP hD hS hA hC9 [some 0, some 1, some 2] (M := 3) rfl (by decide +kernel) (fun _ => rfl) (fun _ => rfl) (fun r_6 _ H locs hw hP hD hS => ?_)
      try dsimp only at hw
      have hP : va_P G.1 vwCl (wd_X5_firstUndistributive G h_this h_products h_quotients h_products_cells f_size f_badColumn a_products_cells) H := hP
      have hD : va_D A (wd_X5_firstUndistributive G h_this h_products h_quotients h_products_cells f_size f_badColumn a_products_cells) := hD
      refine lv_aload_n hx hb dX5_firstUndistributive_48 rfl (lv_at hl 0 rfl) ?_
      refine lv_iload_n hx hb dX5_firstUndistributive_49 rfl (lv_at hl 2 rfl) ?_
      refine lv_iload_n hx hb dX5_firstUndistributive_50 rfl (lv_at hl 3 rfl) ?_
      have hC9 : ([0, 1, 2]).map (fun i => (wd_X5_firstUndistributive G h_this h_products h_quotients h_products_cells f_size f_badColumn a_products_cells)[i]?) = (wd_X5_product G h_this h_products h_quotients h_products_cells f_size f_badColumn a_products_cells).map some := rfl
      refine qn_callI (wd := (fun u : Unit => wd_X5_firstUndistributive G h_this h_products h_quotients h_products_cells f_size f_badColumn a_products_cells)) [0, 1, 2] (va_runV (As := [.int x2, .int x3]) (rest := [.int r_6, .ref h_this, .int r_5]) ⟨hx, hb, hml, hown, hts⟩ (c_X5_product G _ h_this h_products h_quotients h_products_cells f_size f_badColumn a_products_cells x2 x3 hw) (cwV 2 hts gX5_firstUndistributive_X5_product rfl rfl rfl (by decide +kernel) ⟨Nat.le_of_ble_eq_true rfl, Nat.le_of_ble_eq_true rfl⟩) (qn_preV hE hP hD [0, 1, 2] hC9 (by decide +kernel) (ci := 5) rfl rfl) rfl rfl hl.1 rfl (lv_room (Nat.le_of_ble_eq_true rfl)) dX5_firstUndistributive_51 ⟨Nat.le_of_ble_eq_true rfl, Nat.le_of_ble_eq_true rfl⟩) hP hD hS hA hC9 [some 0, some 1, some 2] (M := 3) rfl (by decide +kernel) (fun _ => rfl) (fun _ => rfl) (fun r_7 _ H locs hw hP hD hS => ?_)
      try dsimp only at hw
      have hP : va_P G.1 vwCl (wd_X5_firstUndistributive G h_this h_products h_quotients h_products_cells f_size f_badColumn a_products_cells) H := hP
      have hD : va_D A (wd_X5_firstUndistributive G h_this h_products h_quotients h_products_cells f_size f_badColumn a_products_cells) := hD
      have hC9 : ([0, 1, 2]).map (fun i => (wd_X5_firstUndistributive G h_this h_products h_quotients h_products_cells f_size f_badColumn a_products_cells)[i]?) = (wd_X5_product G h_this h_products h_quotients h_products_cells f_size f_badColumn a_products_cells).map some := rfl
      refine qn_callI (wd := (fun u : Unit => wd_X5_firstUndistributive G h_this h_products h_quotients h_products_cells f_size f_badColumn a_products_cells)) [0, 1, 2] (va_runV (As := [.int r_6, .int r_7]) (rest := [.int r_5]) ⟨hx, hb, hml, hown, hts⟩ (c_X5_product G _ h_this h_products h_quotients h_products_cells f_size f_badColumn a_products_cells r_6 r_7 hw) (cwV 2 hts gX5_firstUndistributive_X5_product rfl rfl rfl (by decide +kernel) ⟨Nat.le_of_ble_eq_true rfl, Nat.le_of_ble_eq_true rfl⟩) (qn_preV hE hP hD [0, 1, 2] hC9 (by decide +kernel) (ci := 5) rfl rfl) rfl rfl hl.1 rfl (lv_room (Nat.le_of_ble_eq_true rfl)) dX5_firstUndistributive_54 ⟨Nat.le_of_ble_eq_true rfl, Nat.le_of_ble_eq_true rfl⟩) hP hD hS hA hC9 [some 0, some 1, some 2] (M := 3) rfl (by decide +kernel) (fun _ => rfl) (fun _ => rfl) (fun r_8 _ H locs hw hP hD hS => ?_)
      try dsimp only at hw
      have hP : va_P G.1 vwCl (wd_X5_firstUndistributive G h_this h_products h_quotients h_products_cells f_size f_badColumn a_products_cells) H := hP
      have hD : va_D A (wd_X5_firstUndistributive G h_this h_products h_quotients h_products_cells f_size f_badColumn a_products_cells) := hD
      refine lv_icmp_eq (tgt := 67) hx hb dX5_firstUndistributive_57 (by decide) (fun c_9 => ?_) (fun c_9 => ?_)
      · have hw := hw.1 c_9
        obtain ⟨x3_10, ex3_10⟩ : ∃ y : Int32, y = x3 + 1 := ⟨_, rfl⟩
        have hw := hw x3_10 ex3_10
        refine lv_iinc (v := x3_10) (lv' := [(3, .int x3_10), (0, .ref h_this), (1, .int x1), (2, .int x2)]) hx hb dX5_firstUndistributive_67 hl (k := 3) rfl (by rw [ex3_10]; rfl) (by decide) rfl (fun ls hl => ?_)
        refine lv_goto (tgt := 22) hx hb dX5_firstUndistributive_70 (by decide) ?_
        exact ih x3_10 hw _ _ _ hP hD hS (lv_sub hl [1, 2, 3, 0] rfl)
      · have hw := hw.2 c_9
        refine lv_iload_n hx hb dX5_firstUndistributive_60 rfl (lv_at hl 1 rfl) ?_
        refine lv_iload_n hx hb dX5_firstUndistributive_61 rfl (lv_at hl 2 rfl) ?_
        refine lv_iload_n hx hb dX5_firstUndistributive_62 rfl (lv_at hl 3 rfl) ?_
        have hC9 : ([] : List Nat).map (fun i => (wd_X5_firstUndistributive G h_this h_products h_quotients h_products_cells f_size f_badColumn a_products_cells)[i]?) = (wd_X9_tripleCode G).map some := rfl
        refine qn_callI (wd := (fun u : Unit => wd_X5_firstUndistributive G h_this h_products h_quotients h_products_cells f_size f_badColumn a_products_cells)) [] (va_runSN (As := [.int x1, .int x2, .int x3]) (rest := []) ⟨hx, hb, hml, hown, hts⟩ (c_X9_tripleCode G _ x1 x2 x3 hw) ⟨va_cnB 3 hts ggX5_firstUndistributive_X9_tripleCode rfl rfl rfl (qn_m_Operation_58 hE.2.1) (hts (.initialized RX9) (by decide +kernel)) (by decide +kernel) ⟨Nat.le_of_ble_eq_true rfl, Nat.le_of_ble_eq_true rfl⟩, hts (.static yX9_tripleCode) (by decide +kernel), trivial⟩ (qn_preS hE hP hD [] hC9 (by decide +kernel)) rfl rfl hl.1 rfl (lv_room (Nat.le_of_ble_eq_true rfl)) dX5_firstUndistributive_63 ⟨Nat.le_of_ble_eq_true rfl, Nat.le_of_ble_eq_true rfl⟩) hP hD hS hA hC9 [none, none, none] (M := 3) rfl (by decide +kernel) (fun _ => rfl) (fun _ => rfl) (fun r_11 _ H locs hw hP hD hS => ?_)
        try dsimp only at hw
        have hP : va_P G.1 vwCl (wd_X5_firstUndistributive G h_this h_products h_quotients h_products_cells f_size f_badColumn a_products_cells) H := hP
        have hD : va_D A (wd_X5_firstUndistributive G h_this h_products h_quotients h_products_cells f_size f_badColumn a_products_cells) := hD
        exact W.iret (v := r_11) hx hb hr (fun t ht hW => ⟨⟨r_11, (), rfl, hw, by rw [ht]; exact hP, hD⟩, hS.F ht⟩) hS.2.2 dX5_firstUndistributive_66
set_option maxHeartbeats 4000000 in
set_option maxRecDepth 100000 in
theorem l_X5_firstUndistributive_12 {p : Program} {l : Launch} {e : Env} {s : State} {m : MethodId} {args : Array Value} {below : List Frame} {meth : Method} {c : Code} {G : qn_G} {A : Nat → Prop} {h_this h_products h_quotients h_products_cells : Nat} {f_size : Int32} {f_badColumn : Int32} {a_products_cells : Nat → Int32} {x1 : Int32} {post : Int32 → Prop} {KL12 : Prop} (C0 : qn_C p m c cX5_firstUndistributive 4 s args wsX5_firstUndistributive RX5 meth (some .int)) (hE : qn_EV G s) (hA : ∀ q, s.heap.size ≤ q → A q) (hKc : KL12 → ∀ (H : Heap) (locs : List Loc) (ls : Array Slot), va_P G.1 vwCl (wd_X5_firstUndistributive G h_this h_products h_quotients h_products_cells f_size f_badColumn a_products_cells) H → va_D A (wd_X5_firstUndistributive G h_this h_products h_quotients h_products_cells f_size f_badColumn a_products_cells) → va_S A s.heap H locs → lv_has ls 4 [(0, .ref h_this), (1, .int x1)] → W p l e (headSpec wsX5_firstUndistributive rm_X5_firstUndistributive).room s m args below meth c H locs 0 0 (MQ below (qn_QI G (fun (r : Int32) (u : Unit) => post r) (fun u : Unit => wd_X5_firstUndistributive G h_this h_products h_quotients h_products_cells f_size f_badColumn a_products_cells) A) args s 0 0 A) (F0 m 79 ls [])) :
    ∀ (fu : Nat) (x2 : Int32), wp_X5_firstUndistributive_L12 post KL12 x1 f_size a_products_cells fu x2 → ∀ (H : Heap) (locs : List Loc) (ls : Array Slot), va_P G.1 vwCl (wd_X5_firstUndistributive G h_this h_products h_quotients h_products_cells f_size f_badColumn a_products_cells) H → va_D A (wd_X5_firstUndistributive G h_this h_products h_quotients h_products_cells f_size f_badColumn a_products_cells) → va_S A s.heap H locs → lv_has ls 4 [(0, .ref h_this), (1, .int x1), (2, .int x2)] → W p l e (headSpec wsX5_firstUndistributive rm_X5_firstUndistributive).room s m args below meth c H locs 0 0 (MQ below (qn_QI G (fun (r : Int32) (u : Unit) => post r) (fun u : Unit => wd_X5_firstUndistributive G h_this h_products h_quotients h_products_cells f_size f_badColumn a_products_cells) A) args s 0 0 A) (F0 m 12 ls []) := by
  obtain ⟨hx, hb, hml, hown, hts, hr, hlocks⟩ := id C0
  intro fu
  induction fu with
  | zero => intro x2 hw; exact hw.elim
  | succ fu ih =>
    intro x2 hw H locs ls hP hD hS hl
    refine lv_iload_n hx hb dX5_firstUndistributive_12 rfl (lv_at hl 2 rfl) ?_
    refine lv_aload_n hx hb dX5_firstUndistributive_13 rfl (lv_at hl 0 rfl) ?_
    refine va_get (D := G.1) (ci := 5) (v := .int f_size) (C := RX5) (T := TX5) (N := 4) hx hb hts in_X5_firstUndistributive_X5 hown hE.1 hP 0 rfl rfl 0 (by decide) (hts (.fieldLink RX5 9 "QuandleColorings$Operation" "size" "I") lk_X5_firstUndistributive_9) (fun _ h9 => h9) rfl dX5_firstUndistributive_14 ?_
    refine lv_icmp_ge (tgt := 79) hx hb dX5_firstUndistributive_17 (by decide) (fun c_2 => ?_) (fun c_2 => ?_)
    · have hw := hw.1 c_2
      exact hKc  hw _ _ _ hP hD hS (lv_sub hl [0, 1] rfl)
    · have hw := hw.2 c_2
      refine lv_iconst (v := 0) hx hb dX5_firstUndistributive_20 (by decide) ?_
      refine lv_istore_n (lv' := [(3, .int 0), (0, .ref h_this), (1, .int x1), (2, .int x2)]) hx hb dX5_firstUndistributive_21 rfl hl (by decide) rfl (fun ls hl => ?_)
      obtain ⟨fu_13, hw⟩ := hw
      refine l_X5_firstUndistributive_22 (post := post) C0 hE hA (fun  hw H locs ls hP hD hS hl => ?_) fu_13 0 hw _ _ _ hP hD hS (lv_sub hl [1, 2, 3, 0] rfl)
      obtain ⟨x2_12, ex2_12⟩ : ∃ y : Int32, y = x2 + 1 := ⟨_, rfl⟩
      have hw := hw x2_12 ex2_12
      refine lv_iinc (v := x2_12) (lv' := [(2, .int x2_12), (0, .ref h_this), (1, .int x1)]) hx hb dX5_firstUndistributive_73 hl (k := 2) rfl (by rw [ex2_12]; rfl) (by decide) rfl (fun ls hl => ?_)
      refine lv_goto (tgt := 12) hx hb dX5_firstUndistributive_76 (by decide) ?_
      exact ih x2_12 hw _ _ _ hP hD hS (lv_sub hl [1, 2, 0] rfl)
set_option maxHeartbeats 4000000 in
set_option maxRecDepth 100000 in
theorem l_X5_firstUndistributive_2 {p : Program} {l : Launch} {e : Env} {s : State} {m : MethodId} {args : Array Value} {below : List Frame} {meth : Method} {c : Code} {G : qn_G} {A : Nat → Prop} {h_this h_products h_quotients h_products_cells : Nat} {f_size : Int32} {f_badColumn : Int32} {a_products_cells : Nat → Int32} {post : Int32 → Prop} {KL2 : Prop} (C0 : qn_C p m c cX5_firstUndistributive 4 s args wsX5_firstUndistributive RX5 meth (some .int)) (hE : qn_EV G s) (hA : ∀ q, s.heap.size ≤ q → A q) (hKc : KL2 → ∀ (H : Heap) (locs : List Loc) (ls : Array Slot), va_P G.1 vwCl (wd_X5_firstUndistributive G h_this h_products h_quotients h_products_cells f_size f_badColumn a_products_cells) H → va_D A (wd_X5_firstUndistributive G h_this h_products h_quotients h_products_cells f_size f_badColumn a_products_cells) → va_S A s.heap H locs → lv_has ls 4 [] → W p l e (headSpec wsX5_firstUndistributive rm_X5_firstUndistributive).room s m args below meth c H locs 0 0 (MQ below (qn_QI G (fun (r : Int32) (u : Unit) => post r) (fun u : Unit => wd_X5_firstUndistributive G h_this h_products h_quotients h_products_cells f_size f_badColumn a_products_cells) A) args s 0 0 A) (F0 m 85 ls [])) :
    ∀ (fu : Nat) (x1 : Int32), wp_X5_firstUndistributive_L2 post KL2 f_size a_products_cells fu x1 → ∀ (H : Heap) (locs : List Loc) (ls : Array Slot), va_P G.1 vwCl (wd_X5_firstUndistributive G h_this h_products h_quotients h_products_cells f_size f_badColumn a_products_cells) H → va_D A (wd_X5_firstUndistributive G h_this h_products h_quotients h_products_cells f_size f_badColumn a_products_cells) → va_S A s.heap H locs → lv_has ls 4 [(0, .ref h_this), (1, .int x1)] → W p l e (headSpec wsX5_firstUndistributive rm_X5_firstUndistributive).room s m args below meth c H locs 0 0 (MQ below (qn_QI G (fun (r : Int32) (u : Unit) => post r) (fun u : Unit => wd_X5_firstUndistributive G h_this h_products h_quotients h_products_cells f_size f_badColumn a_products_cells) A) args s 0 0 A) (F0 m 2 ls []) := by
  obtain ⟨hx, hb, hml, hown, hts, hr, hlocks⟩ := id C0
  intro fu
  induction fu with
  | zero => intro x1 hw; exact hw.elim
  | succ fu ih =>
    intro x1 hw H locs ls hP hD hS hl
    refine lv_iload_n hx hb dX5_firstUndistributive_2 rfl (lv_at hl 1 rfl) ?_
    refine lv_aload_n hx hb dX5_firstUndistributive_3 rfl (lv_at hl 0 rfl) ?_
    refine va_get (D := G.1) (ci := 5) (v := .int f_size) (C := RX5) (T := TX5) (N := 4) hx hb hts in_X5_firstUndistributive_X5 hown hE.1 hP 0 rfl rfl 0 (by decide) (hts (.fieldLink RX5 9 "QuandleColorings$Operation" "size" "I") lk_X5_firstUndistributive_9) (fun _ h9 => h9) rfl dX5_firstUndistributive_4 ?_
    refine lv_icmp_ge (tgt := 85) hx hb dX5_firstUndistributive_7 (by decide) (fun c_1 => ?_) (fun c_1 => ?_)
    · have hw := hw.1 c_1
      exact hKc  hw _ _ _ hP hD hS (lv_sub hl [] rfl)
    · have hw := hw.2 c_1
      refine lv_iconst (v := 0) hx hb dX5_firstUndistributive_10 (by decide) ?_
      refine lv_istore_n (lv' := [(2, .int 0), (0, .ref h_this), (1, .int x1)]) hx hb dX5_firstUndistributive_11 rfl hl (by decide) rfl (fun ls hl => ?_)
      obtain ⟨fu_15, hw⟩ := hw
      refine l_X5_firstUndistributive_12 (post := post) C0 hE hA (fun  hw H locs ls hP hD hS hl => ?_) fu_15 0 hw _ _ _ hP hD hS (lv_sub hl [1, 2, 0] rfl)
      obtain ⟨x1_14, ex1_14⟩ : ∃ y : Int32, y = x1 + 1 := ⟨_, rfl⟩
      have hw := hw x1_14 ex1_14
      refine lv_iinc (v := x1_14) (lv' := [(1, .int x1_14), (0, .ref h_this)]) hx hb dX5_firstUndistributive_79 hl (k := 1) rfl (by rw [ex1_14]; rfl) (by decide) rfl (fun ls hl => ?_)
      refine lv_goto (tgt := 2) hx hb dX5_firstUndistributive_82 (by decide) ?_
      exact ih x1_14 hw _ _ _ hP hD hS (lv_sub hl [1, 0] rfl)
set_option maxHeartbeats 4000000 in
set_option maxRecDepth 100000 in
theorem c_X5_firstUndistributive {l : Launch} (G : qn_G) (sz : Nat) (h_this h_products h_quotients h_products_cells : Nat) (f_size : Int32) (f_badColumn : Int32) (a_products_cells : Nat → Int32) {post : Int32 → Prop} (hw : wp_X5_firstUndistributive post f_size a_products_cells) : Met l yX5_firstUndistributive wsX5_firstUndistributive rm_X5_firstUndistributive (qn_PC G [.ref h_this] sz (wd_X5_firstUndistributive G h_this h_products h_quotients h_products_cells f_size f_badColumn a_products_cells)) (qn_QI G (fun (r : Int32) (u : Unit) => post r) (fun u : Unit => wd_X5_firstUndistributive G h_this h_products h_quotients h_products_cells f_size f_badColumn a_products_cells) (va_A (wd_X5_firstUndistributive G h_this h_products h_quotients h_products_cells f_size f_badColumn a_products_cells) sz)) 0 0 (va_A (wd_X5_firstUndistributive G h_this h_products h_quotients h_products_cells f_size f_badColumn a_products_cells) sz) := by
  refine Met.ofW (cc := cX5_firstUndistributive) (maxL := 4) (ret := (some .int)) (by decide) rfl ?_
  intro p e s m args below meth c s₁ B hml hv
  obtain ⟨rfl, hsz, hP, hE, hD0⟩ := hv
  have C0 : qn_C p m c cX5_firstUndistributive 4 s _ wsX5_firstUndistributive RX5 meth (some .int) := qn_C0 B hml
  obtain ⟨hx, hb, -, hown, hts, hr, hlocks⟩ := id C0
  subst hsz
  have hD := hD0.self (sz := s.heap.size)
  generalize hAe : va_A (wd_X5_firstUndistributive G h_this h_products h_quotients h_products_cells f_size f_badColumn a_products_cells) s.heap.size = A at hD ⊢
  have hA : ∀ q : Nat, s.heap.size ≤ q → A q := fun q h => by rw [← hAe]; exact Or.inr h
  clear hAe
  have hS : va_S A s.heap s.heap [] := va_S.rf
  have hl := lv_entry ([.ref h_this]) (n := 4) (Nat.le_of_ble_eq_true rfl)
  rw [lg_entry_eq]
  generalize (lg_sl ([.ref h_this]) ++ List.replicate (4 - (lg_sl ([.ref h_this])).length) Slot.unset).toArray = ls at hl ⊢
  have hl : lv_has ls 4 [(0, .ref h_this)] := hl
  have hP : va_P G.1 vwCl (wd_X5_firstUndistributive G h_this h_products h_quotients h_products_cells f_size f_badColumn a_products_cells) s.heap := hP
  refine lv_iconst (v := 0) hx hb dX5_firstUndistributive_0 (by decide) ?_
  refine lv_istore_n (lv' := [(1, .int 0), (0, .ref h_this)]) hx hb dX5_firstUndistributive_1 rfl hl (by decide) rfl (fun ls hl => ?_)
  obtain ⟨fu_16, hw⟩ := hw
  refine l_X5_firstUndistributive_2 (post := post) C0 hE hA (fun  hw H locs ls hP hD hS hl => ?_) fu_16 0 hw _ _ _ hP hD hS (lv_sub hl [1, 0] rfl)
  refine lv_bipush (v := (-4)) hx hb dX5_firstUndistributive_85 (by decide) ?_
  exact W.iret (v := (-4)) hx hb hr (fun t ht hW => ⟨⟨(-4), (), rfl, hw, by rw [ht]; exact hP, hD⟩, hS.F ht⟩) hS.2.2 dX5_firstUndistributive_87
-- QuandleColorings$Operation.firstUnidempotent()I
abbrev rm_X5_firstUnidempotent : Room := { frames := 3, cells := 0, slots := 0, locals := 65 }
abbrev wd_X5_firstUnidempotent (G : qn_G) (h_this h_products h_quotients h_products_cells : Nat) (f_size : Int32) (f_badColumn : Int32) (a_products_cells : Nat → Int32) : va_W := [(h_this, .inr (5, [.int f_size, .ref h_products, .ref h_quotients, .int f_badColumn])), (h_products, .inr (2, [.ref h_products_cells])), (h_products_cells, .inl (G.2.1, 36, .inl a_products_cells))]
theorem in_X5_firstUnidempotent_X5 : ∀ w ∈ u_ws RX5 TX5 4, w ∈ wsX5_firstUnidempotent := by decide +kernel
theorem lk_X5_firstUnidempotent_9 : Cond.fieldLink RX5 9 "QuandleColorings$Operation" "size" "I" ∈ wsX5_firstUnidempotent := by decide +kernel
def wp_X5_firstUnidempotent_L2 (post : Int32 → Prop) (KL2 : Prop) (f_size : Int32) (a_products_cells : Nat → Int32) : Nat → Int32 → Prop
  | 0 => fun _ => False
  | fu + 1 => fun x1 => ((f_size ≤ x1 → KL2) ∧ (¬ f_size ≤ x1 → (wp_X5_product (fun (r_2 : Int32) => ((r_2 = x1 → (∀ x1_4 : Int32, x1_4 = x1 + 1 → ((wp_X5_firstUnidempotent_L2 post KL2 f_size a_products_cells fu) x1_4))) ∧ (¬ r_2 = x1 → (post x1)))) a_products_cells x1 x1)))
def wp_X5_firstUnidempotent (post : Int32 → Prop) (f_size : Int32) (a_products_cells : Nat → Int32) : Prop := (∃ fu_5 : Nat, wp_X5_firstUnidempotent_L2 post (post (-4)) f_size a_products_cells fu_5 0)
set_option maxHeartbeats 4000000 in
set_option maxRecDepth 100000 in
theorem l_X5_firstUnidempotent_2 {p : Program} {l : Launch} {e : Env} {s : State} {m : MethodId} {args : Array Value} {below : List Frame} {meth : Method} {c : Code} {G : qn_G} {A : Nat → Prop} {h_this h_products h_quotients h_products_cells : Nat} {f_size : Int32} {f_badColumn : Int32} {a_products_cells : Nat → Int32} {post : Int32 → Prop} {KL2 : Prop} (C0 : qn_C p m c cX5_firstUnidempotent 2 s args wsX5_firstUnidempotent RX5 meth (some .int)) (hE : qn_EV G s) (hA : ∀ q, s.heap.size ≤ q → A q) (hKc : KL2 → ∀ (H : Heap) (locs : List Loc) (ls : Array Slot), va_P G.1 vwCl (wd_X5_firstUnidempotent G h_this h_products h_quotients h_products_cells f_size f_badColumn a_products_cells) H → va_D A (wd_X5_firstUnidempotent G h_this h_products h_quotients h_products_cells f_size f_badColumn a_products_cells) → va_S A s.heap H locs → lv_has ls 2 [] → W p l e (headSpec wsX5_firstUnidempotent rm_X5_firstUnidempotent).room s m args below meth c H locs 0 0 (MQ below (qn_QI G (fun (r : Int32) (u : Unit) => post r) (fun u : Unit => wd_X5_firstUnidempotent G h_this h_products h_quotients h_products_cells f_size f_badColumn a_products_cells) A) args s 0 0 A) (F0 m 28 ls [])) :
    ∀ (fu : Nat) (x1 : Int32), wp_X5_firstUnidempotent_L2 post KL2 f_size a_products_cells fu x1 → ∀ (H : Heap) (locs : List Loc) (ls : Array Slot), va_P G.1 vwCl (wd_X5_firstUnidempotent G h_this h_products h_quotients h_products_cells f_size f_badColumn a_products_cells) H → va_D A (wd_X5_firstUnidempotent G h_this h_products h_quotients h_products_cells f_size f_badColumn a_products_cells) → va_S A s.heap H locs → lv_has ls 2 [(0, .ref h_this), (1, .int x1)] → W p l e (headSpec wsX5_firstUnidempotent rm_X5_firstUnidempotent).room s m args below meth c H locs 0 0 (MQ below (qn_QI G (fun (r : Int32) (u : Unit) => post r) (fun u : Unit => wd_X5_firstUnidempotent G h_this h_products h_quotients h_products_cells f_size f_badColumn a_products_cells) A) args s 0 0 A) (F0 m 2 ls []) := by
  obtain ⟨hx, hb, hml, hown, hts, hr, hlocks⟩ := id C0
  intro fu
  induction fu with
  | zero => intro x1 hw; exact hw.elim
  | succ fu ih =>
    intro x1 hw H locs ls hP hD hS hl
    refine lv_iload_n hx hb dX5_firstUnidempotent_2 rfl (lv_at hl 1 rfl) ?_
    refine lv_aload_n hx hb dX5_firstUnidempotent_3 rfl (lv_at hl 0 rfl) ?_
    refine va_get (D := G.1) (ci := 5) (v := .int f_size) (C := RX5) (T := TX5) (N := 4) hx hb hts in_X5_firstUnidempotent_X5 hown hE.1 hP 0 rfl rfl 0 (by decide) (hts (.fieldLink RX5 9 "QuandleColorings$Operation" "size" "I") lk_X5_firstUnidempotent_9) (fun _ h9 => h9) rfl dX5_firstUnidempotent_4 ?_
    refine lv_icmp_ge (tgt := 28) hx hb dX5_firstUnidempotent_7 (by decide) (fun c_1 => ?_) (fun c_1 => ?_)
    · have hw := hw.1 c_1
      exact hKc  hw _ _ _ hP hD hS (lv_sub hl [] rfl)
    · have hw := hw.2 c_1
      refine lv_aload_n hx hb dX5_firstUnidempotent_10 rfl (lv_at hl 0 rfl) ?_
      refine lv_iload_n hx hb dX5_firstUnidempotent_11 rfl (lv_at hl 1 rfl) ?_
      refine lv_iload_n hx hb dX5_firstUnidempotent_12 rfl (lv_at hl 1 rfl) ?_
      have hC9 : ([0, 1, 2]).map (fun i => (wd_X5_firstUnidempotent G h_this h_products h_quotients h_products_cells f_size f_badColumn a_products_cells)[i]?) = (wd_X5_product G h_this h_products h_quotients h_products_cells f_size f_badColumn a_products_cells).map some := rfl
      refine qn_callI (wd := (fun u : Unit => wd_X5_firstUnidempotent G h_this h_products h_quotients h_products_cells f_size f_badColumn a_products_cells)) [0, 1, 2] (va_runV (As := [.int x1, .int x1]) (rest := []) ⟨hx, hb, hml, hown, hts⟩ (c_X5_product G _ h_this h_products h_quotients h_products_cells f_size f_badColumn a_products_cells x1 x1 hw) (cwV 2 hts gX5_firstUnidempotent_X5_product rfl rfl rfl (by decide +kernel) ⟨Nat.le_of_ble_eq_true rfl, Nat.le_of_ble_eq_true rfl⟩) (qn_preV hE hP hD [0, 1, 2] hC9 (by decide +kernel) (ci := 5) rfl rfl) rfl rfl hl.1 rfl (lv_room (Nat.le_of_ble_eq_true rfl)) dX5_firstUnidempotent_13 ⟨Nat.le_of_ble_eq_true rfl, Nat.le_of_ble_eq_true rfl⟩) hP hD hS hA hC9 [some 0, some 1, some 2] (M := 3) rfl (by decide +kernel) (fun _ => rfl) (fun _ => rfl) (fun r_2 _ H locs hw hP hD hS => ?_)
      try dsimp only at hw
      have hP : va_P G.1 vwCl (wd_X5_firstUnidempotent G h_this h_products h_quotients h_products_cells f_size f_badColumn a_products_cells) H := hP
      have hD : va_D A (wd_X5_firstUnidempotent G h_this h_products h_quotients h_products_cells f_size f_badColumn a_products_cells) := hD
      refine lv_iload_n hx hb dX5_firstUnidempotent_16 rfl (lv_at hl 1 rfl) ?_
      refine lv_icmp_eq (tgt := 22) hx hb dX5_firstUnidempotent_17 (by decide) (fun c_3 => ?_) (fun c_3 => ?_)
      · have hw := hw.1 c_3
        obtain ⟨x1_4, ex1_4⟩ : ∃ y : Int32, y = x1 + 1 := ⟨_, rfl⟩
        have hw := hw x1_4 ex1_4
        refine lv_iinc (v := x1_4) (lv' := [(1, .int x1_4), (0, .ref h_this)]) hx hb dX5_firstUnidempotent_22 hl (k := 1) rfl (by rw [ex1_4]; rfl) (by decide) rfl (fun ls hl => ?_)
        refine lv_goto (tgt := 2) hx hb dX5_firstUnidempotent_25 (by decide) ?_
        exact ih x1_4 hw _ _ _ hP hD hS (lv_sub hl [1, 0] rfl)
      · have hw := hw.2 c_3
        refine lv_iload_n hx hb dX5_firstUnidempotent_20 rfl (lv_at hl 1 rfl) ?_
        exact W.iret (v := x1) hx hb hr (fun t ht hW => ⟨⟨x1, (), rfl, hw, by rw [ht]; exact hP, hD⟩, hS.F ht⟩) hS.2.2 dX5_firstUnidempotent_21
set_option maxHeartbeats 4000000 in
set_option maxRecDepth 100000 in
theorem c_X5_firstUnidempotent {l : Launch} (G : qn_G) (sz : Nat) (h_this h_products h_quotients h_products_cells : Nat) (f_size : Int32) (f_badColumn : Int32) (a_products_cells : Nat → Int32) {post : Int32 → Prop} (hw : wp_X5_firstUnidempotent post f_size a_products_cells) : Met l yX5_firstUnidempotent wsX5_firstUnidempotent rm_X5_firstUnidempotent (qn_PC G [.ref h_this] sz (wd_X5_firstUnidempotent G h_this h_products h_quotients h_products_cells f_size f_badColumn a_products_cells)) (qn_QI G (fun (r : Int32) (u : Unit) => post r) (fun u : Unit => wd_X5_firstUnidempotent G h_this h_products h_quotients h_products_cells f_size f_badColumn a_products_cells) (va_A (wd_X5_firstUnidempotent G h_this h_products h_quotients h_products_cells f_size f_badColumn a_products_cells) sz)) 0 0 (va_A (wd_X5_firstUnidempotent G h_this h_products h_quotients h_products_cells f_size f_badColumn a_products_cells) sz) := by
  refine Met.ofW (cc := cX5_firstUnidempotent) (maxL := 2) (ret := (some .int)) (by decide) rfl ?_
  intro p e s m args below meth c s₁ B hml hv
  obtain ⟨rfl, hsz, hP, hE, hD0⟩ := hv
  have C0 : qn_C p m c cX5_firstUnidempotent 2 s _ wsX5_firstUnidempotent RX5 meth (some .int) := qn_C0 B hml
  obtain ⟨hx, hb, -, hown, hts, hr, hlocks⟩ := id C0
  subst hsz
  have hD := hD0.self (sz := s.heap.size)
  generalize hAe : va_A (wd_X5_firstUnidempotent G h_this h_products h_quotients h_products_cells f_size f_badColumn a_products_cells) s.heap.size = A at hD ⊢
  have hA : ∀ q : Nat, s.heap.size ≤ q → A q := fun q h => by rw [← hAe]; exact Or.inr h
  clear hAe
  have hS : va_S A s.heap s.heap [] := va_S.rf
  have hl := lv_entry ([.ref h_this]) (n := 2) (Nat.le_of_ble_eq_true rfl)
  rw [lg_entry_eq]
  generalize (lg_sl ([.ref h_this]) ++ List.replicate (2 - (lg_sl ([.ref h_this])).length) Slot.unset).toArray = ls at hl ⊢
  have hl : lv_has ls 2 [(0, .ref h_this)] := hl
  have hP : va_P G.1 vwCl (wd_X5_firstUnidempotent G h_this h_products h_quotients h_products_cells f_size f_badColumn a_products_cells) s.heap := hP
  refine lv_iconst (v := 0) hx hb dX5_firstUnidempotent_0 (by decide) ?_
  refine lv_istore_n (lv' := [(1, .int 0), (0, .ref h_this)]) hx hb dX5_firstUnidempotent_1 rfl hl (by decide) rfl (fun ls hl => ?_)
  obtain ⟨fu_5, hw⟩ := hw
  refine l_X5_firstUnidempotent_2 (post := post) C0 hE hA (fun  hw H locs ls hP hD hS hl => ?_) fu_5 0 hw _ _ _ hP hD hS (lv_sub hl [1, 0] rfl)
  refine lv_bipush (v := (-4)) hx hb dX5_firstUnidempotent_28 (by decide) ?_
  exact W.iret (v := (-4)) hx hb hr (fun t ht hW => ⟨⟨(-4), (), rfl, hw, by rw [ht]; exact hP, hD⟩, hS.F ht⟩) hS.2.2 dX5_firstUnidempotent_30
-- QuandleColorings$Operation.neighbours(I)I
abbrev rm_X5_neighbours : Room := { frames := 3, cells := 0, slots := 0, locals := 65 }
abbrev wd_X5_neighbours (G : qn_G) (h_this h_products h_quotients h_products_cells h_quotients_cells : Nat) (f_size : Int32) (f_badColumn : Int32) (a_products_cells : Nat → Int32) (a_quotients_cells : Nat → Int32) : va_W := [(h_this, .inr (5, [.int f_size, .ref h_products, .ref h_quotients, .int f_badColumn])), (h_products, .inr (2, [.ref h_products_cells])), (h_products_cells, .inl (G.2.1, 36, .inl a_products_cells)), (h_quotients, .inr (2, [.ref h_quotients_cells])), (h_quotients_cells, .inl (G.2.1, 36, .inl a_quotients_cells))]
theorem in_X5_neighbours_X5 : ∀ w ∈ u_ws RX5 TX5 4, w ∈ wsX5_neighbours := by decide +kernel
theorem lk_X5_neighbours_9 : Cond.fieldLink RX5 9 "QuandleColorings$Operation" "size" "I" ∈ wsX5_neighbours := by decide +kernel
def wp_X5_neighbours_L4 (KL4 : Int32 → Prop) (x1 : Int32) (f_size : Int32) (f_badColumn : Int32) (a_products_cells : Nat → Int32) (a_quotients_cells : Nat → Int32) : Nat → Int32 → Int32 → Prop
  | 0 => fun _ _ => False
  | fu + 1 => fun x2 x3 => ((f_size ≤ x3 → (KL4 x2)) ∧ (¬ f_size ≤ x3 → (wp_X5_product (fun (r_2 : Int32) => (∀ x2_3 : Int32, x2_3 = x2 ||| (1 <<< (r_2 &&& 31)) → (wp_X5_isInvertible (fun (r_4 : Int32) => ((r_4 = 0 → (∀ x3_6 : Int32, x3_6 = x3 + 1 → ((wp_X5_neighbours_L4 KL4 x1 f_size f_badColumn a_products_cells a_quotients_cells fu) x2_3 x3_6))) ∧ (¬ r_4 = 0 → (wp_X5_divide (fun (r_7 : Int32) => (∀ x2_8 : Int32, x2_8 = x2_3 ||| (1 <<< (r_7 &&& 31)) → (∀ x3_9 : Int32, x3_9 = x3 + 1 → ((wp_X5_neighbours_L4 KL4 x1 f_size f_badColumn a_products_cells a_quotients_cells fu) x2_8 x3_9)))) a_quotients_cells x1 x3)))) f_badColumn))) a_products_cells x1 x3)))
def wp_X5_neighbours (post : Int32 → Prop) (f_size : Int32) (f_badColumn : Int32) (a_products_cells : Nat → Int32) (a_quotients_cells : Nat → Int32) (x1 : Int32) : Prop := (∃ fu_11 : Nat, wp_X5_neighbours_L4 (fun (x2_10 : Int32) => (post x2_10)) x1 f_size f_badColumn a_products_cells a_quotients_cells fu_11 0 0)
set_option maxHeartbeats 4000000 in
set_option maxRecDepth 100000 in
theorem l_X5_neighbours_4 {p : Program} {l : Launch} {e : Env} {s : State} {m : MethodId} {args : Array Value} {below : List Frame} {meth : Method} {c : Code} {G : qn_G} {A : Nat → Prop} {h_this h_products h_quotients h_products_cells h_quotients_cells : Nat} {f_size : Int32} {f_badColumn : Int32} {a_products_cells : Nat → Int32} {a_quotients_cells : Nat → Int32} {x1 : Int32} {post : Int32 → Prop} {KL4 : Int32 → Prop} (C0 : qn_C p m c cX5_neighbours 4 s args wsX5_neighbours RX5 meth (some .int)) (hE : qn_EV G s) (hA : ∀ q, s.heap.size ≤ q → A q) (hKc : ∀ (x2 : Int32), KL4 x2 → ∀ (H : Heap) (locs : List Loc) (ls : Array Slot), va_P G.1 vwCl (wd_X5_neighbours G h_this h_products h_quotients h_products_cells h_quotients_cells f_size f_badColumn a_products_cells a_quotients_cells) H → va_D A (wd_X5_neighbours G h_this h_products h_quotients h_products_cells h_quotients_cells f_size f_badColumn a_products_cells a_quotients_cells) → va_S A s.heap H locs → lv_has ls 4 [(2, .int x2)] → W p l e (headSpec wsX5_neighbours rm_X5_neighbours).room s m args below meth c H locs 0 0 (MQ below (qn_QI G (fun (r : Int32) (u : Unit) => post r) (fun u : Unit => wd_X5_neighbours G h_this h_products h_quotients h_products_cells h_quotients_cells f_size f_badColumn a_products_cells a_quotients_cells) A) args s 0 0 A) (F0 m 47 ls [])) :
    ∀ (fu : Nat) (x2 : Int32) (x3 : Int32), wp_X5_neighbours_L4 KL4 x1 f_size f_badColumn a_products_cells a_quotients_cells fu x2 x3 → ∀ (H : Heap) (locs : List Loc) (ls : Array Slot), va_P G.1 vwCl (wd_X5_neighbours G h_this h_products h_quotients h_products_cells h_quotients_cells f_size f_badColumn a_products_cells a_quotients_cells) H → va_D A (wd_X5_neighbours G h_this h_products h_quotients h_products_cells h_quotients_cells f_size f_badColumn a_products_cells a_quotients_cells) → va_S A s.heap H locs → lv_has ls 4 [(0, .ref h_this), (1, .int x1), (2, .int x2), (3, .int x3)] → W p l e (headSpec wsX5_neighbours rm_X5_neighbours).room s m args below meth c H locs 0 0 (MQ below (qn_QI G (fun (r : Int32) (u : Unit) => post r) (fun u : Unit => wd_X5_neighbours G h_this h_products h_quotients h_products_cells h_quotients_cells f_size f_badColumn a_products_cells a_quotients_cells) A) args s 0 0 A) (F0 m 4 ls []) := by
  obtain ⟨hx, hb, hml, hown, hts, hr, hlocks⟩ := id C0
  intro fu
  induction fu with
  | zero => intro x2 x3 hw; exact hw.elim
  | succ fu ih =>
    intro x2 x3 hw H locs ls hP hD hS hl
    refine lv_iload_n hx hb dX5_neighbours_4 rfl (lv_at hl 3 rfl) ?_
    refine lv_aload_n hx hb dX5_neighbours_5 rfl (lv_at hl 0 rfl) ?_
    refine va_get (D := G.1) (ci := 5) (v := .int f_size) (C := RX5) (T := TX5) (N := 4) hx hb hts in_X5_neighbours_X5 hown hE.1 hP 0 rfl rfl 0 (by decide) (hts (.fieldLink RX5 9 "QuandleColorings$Operation" "size" "I") lk_X5_neighbours_9) (fun _ h9 => h9) rfl dX5_neighbours_6 ?_
    refine lv_icmp_ge (tgt := 47) hx hb dX5_neighbours_9 (by decide) (fun c_1 => ?_) (fun c_1 => ?_)
    · have hw := hw.1 c_1
      exact hKc x2 hw _ _ _ hP hD hS (lv_sub hl [2] rfl)
    · have hw := hw.2 c_1
      refine lv_iload_n hx hb dX5_neighbours_12 rfl (lv_at hl 2 rfl) ?_
      refine lv_iconst (v := 1) hx hb dX5_neighbours_13 (by decide) ?_
      refine lv_aload_n hx hb dX5_neighbours_14 rfl (lv_at hl 0 rfl) ?_
      refine lv_iload_n hx hb dX5_neighbours_15 rfl (lv_at hl 1 rfl) ?_
      refine lv_iload_n hx hb dX5_neighbours_16 rfl (lv_at hl 3 rfl) ?_
      have hC9 : ([0, 1, 2]).map (fun i => (wd_X5_neighbours G h_this h_products h_quotients h_products_cells h_quotients_cells f_size f_badColumn a_products_cells a_quotients_cells)[i]?) = (wd_X5_product G h_this h_products h_quotients h_products_cells f_size f_badColumn a_products_cells).map some := rfl
      refine qn_callI (wd := (fun u : Unit => wd_X5_neighbours G h_this h_products h_quotients h_products_cells h_quotients_cells f_size f_badColumn a_products_cells a_quotients_cells)) [0, 1, 2] (va_runV (As := [.int x1, .int x3]) (rest := [.int 1, .int x2]) ⟨hx, hb, hml, hown, hts⟩ (c_X5_product G _ h_this h_products h_quotients h_products_cells f_size f_badColumn a_products_cells x1 x3 hw) (cwV 2 hts gX5_neighbours_X5_product rfl rfl rfl (by decide +kernel) ⟨Nat.le_of_ble_eq_true rfl, Nat.le_of_ble_eq_true rfl⟩) (qn_preV hE hP hD [0, 1, 2] hC9 (by decide +kernel) (ci := 5) rfl rfl) rfl rfl hl.1 rfl (lv_room (Nat.le_of_ble_eq_true rfl)) dX5_neighbours_17 ⟨Nat.le_of_ble_eq_true rfl, Nat.le_of_ble_eq_true rfl⟩) hP hD hS hA hC9 [some 0, some 1, some 2, none, none] (M := 5) rfl (by decide +kernel) (fun _ => rfl) (fun _ => rfl) (fun r_2 _ H locs hw hP hD hS => ?_)
      try dsimp only at hw
      have hP : va_P G.1 vwCl (wd_X5_neighbours G h_this h_products h_quotients h_products_cells h_quotients_cells f_size f_badColumn a_products_cells a_quotients_cells) H := hP
      have hD : va_D A (wd_X5_neighbours G h_this h_products h_quotients h_products_cells h_quotients_cells f_size f_badColumn a_products_cells a_quotients_cells) := hD
      refine lv_ishl hx hb dX5_neighbours_20 ?_
      refine lv_ior hx hb dX5_neighbours_21 ?_
      refine lv_topi (fun x2_3 ex2_3 => ?_)
      have hw := hw x2_3 ex2_3
      refine lv_istore_n (lv' := [(2, .int x2_3), (0, .ref h_this), (1, .int x1), (3, .int x3)]) hx hb dX5_neighbours_22 rfl hl (by decide) rfl (fun ls hl => ?_)
      refine lv_aload_n hx hb dX5_neighbours_23 rfl (lv_at hl 1 rfl) ?_
      have hC9 : ([0]).map (fun i => (wd_X5_neighbours G h_this h_products h_quotients h_products_cells h_quotients_cells f_size f_badColumn a_products_cells a_quotients_cells)[i]?) = (wd_X5_isInvertible G h_this h_products h_quotients f_size f_badColumn).map some := rfl
      refine qn_callI (wd := (fun u : Unit => wd_X5_neighbours G h_this h_products h_quotients h_products_cells h_quotients_cells f_size f_badColumn a_products_cells a_quotients_cells)) [0] (va_runV (As := []) (rest := []) ⟨hx, hb, hml, hown, hts⟩ (c_X5_isInvertible G _ h_this h_products h_quotients f_size f_badColumn hw) (cwV 0 hts gX5_neighbours_X5_isInvertible rfl rfl rfl (by decide +kernel) ⟨Nat.le_of_ble_eq_true rfl, Nat.le_of_ble_eq_true rfl⟩) (qn_preV hE hP hD [0] hC9 (by decide +kernel) (ci := 5) rfl rfl) rfl rfl hl.1 rfl (lv_room (Nat.le_of_ble_eq_true rfl)) dX5_neighbours_24 ⟨Nat.le_of_ble_eq_true rfl, Nat.le_of_ble_eq_true rfl⟩) hP hD hS hA hC9 [some 0, none, none, none, none] (M := 5) rfl (by decide +kernel) (fun _ => rfl) (fun _ => rfl) (fun r_4 _ H locs hw hP hD hS => ?_)
      try dsimp only at hw
      have hP : va_P G.1 vwCl (wd_X5_neighbours G h_this h_products h_quotients h_products_cells h_quotients_cells f_size f_badColumn a_products_cells a_quotients_cells) H := hP
      have hD : va_D A (wd_X5_neighbours G h_this h_products h_quotients h_products_cells h_quotients_cells f_size f_badColumn a_products_cells a_quotients_cells) := hD
      refine lv_if_eq (tgt := 41) hx hb dX5_neighbours_27 (by decide) (fun c_5 => ?_) (fun c_5 => ?_)
      · have hw := hw.1 c_5
        obtain ⟨x3_6, ex3_6⟩ : ∃ y : Int32, y = x3 + 1 := ⟨_, rfl⟩
        have hw := hw x3_6 ex3_6
        refine lv_iinc (v := x3_6) (lv' := [(3, .int x3_6), (2, .int x2_3), (0, .ref h_this), (1, .int x1)]) hx hb dX5_neighbours_41 hl (k := 3) rfl (by rw [ex3_6]; rfl) (by decide) rfl (fun ls hl => ?_)
        refine lv_goto (tgt := 4) hx hb dX5_neighbours_44 (by decide) ?_
        exact ih x2_3 x3_6 hw _ _ _ hP hD hS (lv_sub hl [2, 3, 1, 0] rfl)
      · have hw := hw.2 c_5
        refine lv_iload_n hx hb dX5_neighbours_30 rfl (lv_at hl 0 rfl) ?_
        refine lv_iconst (v := 1) hx hb dX5_neighbours_31 (by decide) ?_
        refine lv_aload_n hx hb dX5_neighbours_32 rfl (lv_at hl 1 rfl) ?_
        refine lv_iload_n hx hb dX5_neighbours_33 rfl (lv_at hl 2 rfl) ?_
        refine lv_iload_n hx hb dX5_neighbours_34 rfl (lv_at hl 3 rfl) ?_
        have hC9 : ([0, 3, 4]).map (fun i => (wd_X5_neighbours G h_this h_products h_quotients h_products_cells h_quotients_cells f_size f_badColumn a_products_cells a_quotients_cells)[i]?) = (wd_X5_divide G h_this h_products h_quotients h_quotients_cells f_size f_badColumn a_quotients_cells).map some := rfl
        refine qn_callI (wd := (fun u : Unit => wd_X5_neighbours G h_this h_products h_quotients h_products_cells h_quotients_cells f_size f_badColumn a_products_cells a_quotients_cells)) [0, 3, 4] (va_runV (As := [.int x1, .int x3]) (rest := [.int 1, .int x2_3]) ⟨hx, hb, hml, hown, hts⟩ (c_X5_divide G _ h_this h_products h_quotients h_quotients_cells f_size f_badColumn a_quotients_cells x1 x3 hw) (cwV 2 hts gX5_neighbours_X5_divide rfl rfl rfl (by decide +kernel) ⟨Nat.le_of_ble_eq_true rfl, Nat.le_of_ble_eq_true rfl⟩) (qn_preV hE hP hD [0, 3, 4] hC9 (by decide +kernel) (ci := 5) rfl rfl) rfl rfl hl.1 rfl (lv_room (Nat.le_of_ble_eq_true rfl)) dX5_neighbours_35 ⟨Nat.le_of_ble_eq_true rfl, Nat.le_of_ble_eq_true rfl⟩) hP hD hS hA hC9 [some 0, none, none, some 1, some 2] (M := 5) rfl (by decide +kernel) (fun _ => rfl) (fun _ => rfl) (fun r_7 _ H locs hw hP hD hS => ?_)
        try dsimp only at hw
        have hP : va_P G.1 vwCl (wd_X5_neighbours G h_this h_products h_quotients h_products_cells h_quotients_cells f_size f_badColumn a_products_cells a_quotients_cells) H := hP
        have hD : va_D A (wd_X5_neighbours G h_this h_products h_quotients h_products_cells h_quotients_cells f_size f_badColumn a_products_cells a_quotients_cells) := hD
        refine lv_ishl hx hb dX5_neighbours_38 ?_
        refine lv_ior hx hb dX5_neighbours_39 ?_
        refine lv_topi (fun x2_8 ex2_8 => ?_)
        have hw := hw x2_8 ex2_8
        refine lv_istore_n (lv' := [(2, .int x2_8), (0, .ref h_this), (1, .int x1), (3, .int x3)]) hx hb dX5_neighbours_40 rfl hl (by decide) rfl (fun ls hl => ?_)
        obtain ⟨x3_9, ex3_9⟩ : ∃ y : Int32, y = x3 + 1 := ⟨_, rfl⟩
        have hw := hw x3_9 ex3_9
        refine lv_iinc (v := x3_9) (lv' := [(3, .int x3_9), (2, .int x2_8), (0, .ref h_this), (1, .int x1)]) hx hb dX5_neighbours_41 hl (k := 3) rfl (by rw [ex3_9]; rfl) (by decide) rfl (fun ls hl => ?_)
        refine lv_goto (tgt := 4) hx hb dX5_neighbours_44 (by decide) ?_
        exact ih x2_8 x3_9 hw _ _ _ hP hD hS (lv_sub hl [2, 3, 1, 0] rfl)
set_option maxHeartbeats 4000000 in
set_option maxRecDepth 100000 in
theorem c_X5_neighbours {l : Launch} (G : qn_G) (sz : Nat) (h_this h_products h_quotients h_products_cells h_quotients_cells : Nat) (f_size : Int32) (f_badColumn : Int32) (a_products_cells : Nat → Int32) (a_quotients_cells : Nat → Int32) (x1 : Int32) {post : Int32 → Prop} (hw : wp_X5_neighbours post f_size f_badColumn a_products_cells a_quotients_cells x1) : Met l yX5_neighbours wsX5_neighbours rm_X5_neighbours (qn_PC G [.ref h_this, .int x1] sz (wd_X5_neighbours G h_this h_products h_quotients h_products_cells h_quotients_cells f_size f_badColumn a_products_cells a_quotients_cells)) (qn_QI G (fun (r : Int32) (u : Unit) => post r) (fun u : Unit => wd_X5_neighbours G h_this h_products h_quotients h_products_cells h_quotients_cells f_size f_badColumn a_products_cells a_quotients_cells) (va_A (wd_X5_neighbours G h_this h_products h_quotients h_products_cells h_quotients_cells f_size f_badColumn a_products_cells a_quotients_cells) sz)) 0 0 (va_A (wd_X5_neighbours G h_this h_products h_quotients h_products_cells h_quotients_cells f_size f_badColumn a_products_cells a_quotients_cells) sz) := by
  refine Met.ofW (cc := cX5_neighbours) (maxL := 4) (ret := (some .int)) (by decide) rfl ?_
  intro p e s m args below meth c s₁ B hml hv
  obtain ⟨rfl, hsz, hP, hE, hD0⟩ := hv
  have C0 : qn_C p m c cX5_neighbours 4 s _ wsX5_neighbours RX5 meth (some .int) := qn_C0 B hml
  obtain ⟨hx, hb, -, hown, hts, hr, hlocks⟩ := id C0
  subst hsz
  have hD := hD0.self (sz := s.heap.size)
  generalize hAe : va_A (wd_X5_neighbours G h_this h_products h_quotients h_products_cells h_quotients_cells f_size f_badColumn a_products_cells a_quotients_cells) s.heap.size = A at hD ⊢
  have hA : ∀ q : Nat, s.heap.size ≤ q → A q := fun q h => by rw [← hAe]; exact Or.inr h
  clear hAe
  have hS : va_S A s.heap s.heap [] := va_S.rf
  have hl := lv_entry ([.ref h_this, .int x1]) (n := 4) (Nat.le_of_ble_eq_true rfl)
  rw [lg_entry_eq]
  generalize (lg_sl ([.ref h_this, .int x1]) ++ List.replicate (4 - (lg_sl ([.ref h_this, .int x1])).length) Slot.unset).toArray = ls at hl ⊢
  have hl : lv_has ls 4 [(0, .ref h_this), (1, .int x1)] := hl
  have hP : va_P G.1 vwCl (wd_X5_neighbours G h_this h_products h_quotients h_products_cells h_quotients_cells f_size f_badColumn a_products_cells a_quotients_cells) s.heap := hP
  refine lv_iconst (v := 0) hx hb dX5_neighbours_0 (by decide) ?_
  refine lv_istore_n (lv' := [(2, .int 0), (0, .ref h_this), (1, .int x1)]) hx hb dX5_neighbours_1 rfl hl (by decide) rfl (fun ls hl => ?_)
  refine lv_iconst (v := 0) hx hb dX5_neighbours_2 (by decide) ?_
  refine lv_istore_n (lv' := [(3, .int 0), (2, .int 0), (0, .ref h_this), (1, .int x1)]) hx hb dX5_neighbours_3 rfl hl (by decide) rfl (fun ls hl => ?_)
  obtain ⟨fu_11, hw⟩ := hw
  refine l_X5_neighbours_4 (post := post) C0 hE hA (fun x2_10 hw H locs ls hP hD hS hl => ?_) fu_11 0 0 hw _ _ _ hP hD hS (lv_sub hl [2, 3, 1, 0] rfl)
  refine lv_iload_n hx hb dX5_neighbours_47 rfl (lv_at hl 0 rfl) ?_
  exact W.iret (v := x2_10) hx hb hr (fun t ht hW => ⟨⟨x2_10, (), rfl, hw, by rw [ht]; exact hP, hD⟩, hS.F ht⟩) hS.2.2 dX5_neighbours_48
-- QuandleColorings$Operation.withNeighbours(I)I
abbrev rm_X5_withNeighbours : Room := { frames := 4, cells := 0, slots := 0, locals := 88 }
abbrev wd_X5_withNeighbours (G : qn_G) (h_this h_products h_quotients h_products_cells h_quotients_cells : Nat) (f_size : Int32) (f_badColumn : Int32) (a_products_cells : Nat → Int32) (a_quotients_cells : Nat → Int32) : va_W := [(h_this, .inr (5, [.int f_size, .ref h_products, .ref h_quotients, .int f_badColumn])), (h_products, .inr (2, [.ref h_products_cells])), (h_products_cells, .inl (G.2.1, 36, .inl a_products_cells)), (h_quotients, .inr (2, [.ref h_quotients_cells])), (h_quotients_cells, .inl (G.2.1, 36, .inl a_quotients_cells))]
theorem in_X5_withNeighbours_X5 : ∀ w ∈ u_ws RX5 TX5 4, w ∈ wsX5_withNeighbours := by decide +kernel
theorem lk_X5_withNeighbours_9 : Cond.fieldLink RX5 9 "QuandleColorings$Operation" "size" "I" ∈ wsX5_withNeighbours := by decide +kernel
def wp_X5_withNeighbours_L4 (KL4 : Int32 → Prop) (x1 : Int32) (f_size : Int32) (f_badColumn : Int32) (a_products_cells : Nat → Int32) (a_quotients_cells : Nat → Int32) : Nat → Int32 → Int32 → Prop
  | 0 => fun _ _ => False
  | fu + 1 => fun x2 x3 => ((f_size ≤ x3 → (KL4 x2)) ∧ (¬ f_size ≤ x3 → (((x1 &&& (1 <<< (x3 &&& 31))) = 0 → (∀ x3_3 : Int32, x3_3 = x3 + 1 → ((wp_X5_withNeighbours_L4 KL4 x1 f_size f_badColumn a_products_cells a_quotients_cells fu) x2 x3_3))) ∧ (¬ (x1 &&& (1 <<< (x3 &&& 31))) = 0 → (wp_X5_neighbours (fun (r_4 : Int32) => (∀ x2_5 : Int32, x2_5 = x2 ||| r_4 → (∀ x3_6 : Int32, x3_6 = x3 + 1 → ((wp_X5_withNeighbours_L4 KL4 x1 f_size f_badColumn a_products_cells a_quotients_cells fu) x2_5 x3_6)))) f_size f_badColumn a_products_cells a_quotients_cells x3)))))
def wp_X5_withNeighbours (post : Int32 → Prop) (f_size : Int32) (f_badColumn : Int32) (a_products_cells : Nat → Int32) (a_quotients_cells : Nat → Int32) (x1 : Int32) : Prop := (∃ fu_8 : Nat, wp_X5_withNeighbours_L4 (fun (x2_7 : Int32) => (post x2_7)) x1 f_size f_badColumn a_products_cells a_quotients_cells fu_8 x1 0)
set_option maxHeartbeats 4000000 in
set_option maxRecDepth 100000 in
theorem l_X5_withNeighbours_4 {p : Program} {l : Launch} {e : Env} {s : State} {m : MethodId} {args : Array Value} {below : List Frame} {meth : Method} {c : Code} {G : qn_G} {A : Nat → Prop} {h_this h_products h_quotients h_products_cells h_quotients_cells : Nat} {f_size : Int32} {f_badColumn : Int32} {a_products_cells : Nat → Int32} {a_quotients_cells : Nat → Int32} {x1 : Int32} {post : Int32 → Prop} {KL4 : Int32 → Prop} (C0 : qn_C p m c cX5_withNeighbours 4 s args wsX5_withNeighbours RX5 meth (some .int)) (hE : qn_EV G s) (hA : ∀ q, s.heap.size ≤ q → A q) (hKc : ∀ (x2 : Int32), KL4 x2 → ∀ (H : Heap) (locs : List Loc) (ls : Array Slot), va_P G.1 vwCl (wd_X5_withNeighbours G h_this h_products h_quotients h_products_cells h_quotients_cells f_size f_badColumn a_products_cells a_quotients_cells) H → va_D A (wd_X5_withNeighbours G h_this h_products h_quotients h_products_cells h_quotients_cells f_size f_badColumn a_products_cells a_quotients_cells) → va_S A s.heap H locs → lv_has ls 4 [(2, .int x2)] → W p l e (headSpec wsX5_withNeighbours rm_X5_withNeighbours).room s m args below meth c H locs 0 0 (MQ below (qn_QI G (fun (r : Int32) (u : Unit) => post r) (fun u : Unit => wd_X5_withNeighbours G h_this h_products h_quotients h_products_cells h_quotients_cells f_size f_badColumn a_products_cells a_quotients_cells) A) args s 0 0 A) (F0 m 34 ls [])) :
    ∀ (fu : Nat) (x2 : Int32) (x3 : Int32), wp_X5_withNeighbours_L4 KL4 x1 f_size f_badColumn a_products_cells a_quotients_cells fu x2 x3 → ∀ (H : Heap) (locs : List Loc) (ls : Array Slot), va_P G.1 vwCl (wd_X5_withNeighbours G h_this h_products h_quotients h_products_cells h_quotients_cells f_size f_badColumn a_products_cells a_quotients_cells) H → va_D A (wd_X5_withNeighbours G h_this h_products h_quotients h_products_cells h_quotients_cells f_size f_badColumn a_products_cells a_quotients_cells) → va_S A s.heap H locs → lv_has ls 4 [(0, .ref h_this), (1, .int x1), (2, .int x2), (3, .int x3)] → W p l e (headSpec wsX5_withNeighbours rm_X5_withNeighbours).room s m args below meth c H locs 0 0 (MQ below (qn_QI G (fun (r : Int32) (u : Unit) => post r) (fun u : Unit => wd_X5_withNeighbours G h_this h_products h_quotients h_products_cells h_quotients_cells f_size f_badColumn a_products_cells a_quotients_cells) A) args s 0 0 A) (F0 m 4 ls []) := by
  obtain ⟨hx, hb, hml, hown, hts, hr, hlocks⟩ := id C0
  intro fu
  induction fu with
  | zero => intro x2 x3 hw; exact hw.elim
  | succ fu ih =>
    intro x2 x3 hw H locs ls hP hD hS hl
    refine lv_iload_n hx hb dX5_withNeighbours_4 rfl (lv_at hl 3 rfl) ?_
    refine lv_aload_n hx hb dX5_withNeighbours_5 rfl (lv_at hl 0 rfl) ?_
    refine va_get (D := G.1) (ci := 5) (v := .int f_size) (C := RX5) (T := TX5) (N := 4) hx hb hts in_X5_withNeighbours_X5 hown hE.1 hP 0 rfl rfl 0 (by decide) (hts (.fieldLink RX5 9 "QuandleColorings$Operation" "size" "I") lk_X5_withNeighbours_9) (fun _ h9 => h9) rfl dX5_withNeighbours_6 ?_
    refine lv_icmp_ge (tgt := 34) hx hb dX5_withNeighbours_9 (by decide) (fun c_1 => ?_) (fun c_1 => ?_)
    · have hw := hw.1 c_1
      exact hKc x2 hw _ _ _ hP hD hS (lv_sub hl [2] rfl)
    · have hw := hw.2 c_1
      refine lv_iload_n hx hb dX5_withNeighbours_12 rfl (lv_at hl 1 rfl) ?_
      refine lv_iconst (v := 1) hx hb dX5_withNeighbours_13 (by decide) ?_
      refine lv_iload_n hx hb dX5_withNeighbours_14 rfl (lv_at hl 3 rfl) ?_
      refine lv_ishl hx hb dX5_withNeighbours_15 ?_
      refine lv_iand hx hb dX5_withNeighbours_16 ?_
      refine lv_if_eq (tgt := 28) hx hb dX5_withNeighbours_17 (by decide) (fun c_2 => ?_) (fun c_2 => ?_)
      · have hw := hw.1 c_2
        obtain ⟨x3_3, ex3_3⟩ : ∃ y : Int32, y = x3 + 1 := ⟨_, rfl⟩
        have hw := hw x3_3 ex3_3
        refine lv_iinc (v := x3_3) (lv' := [(3, .int x3_3), (0, .ref h_this), (1, .int x1), (2, .int x2)]) hx hb dX5_withNeighbours_28 hl (k := 3) rfl (by rw [ex3_3]; rfl) (by decide) rfl (fun ls hl => ?_)
        refine lv_goto (tgt := 4) hx hb dX5_withNeighbours_31 (by decide) ?_
        exact ih x2 x3_3 hw _ _ _ hP hD hS (lv_sub hl [1, 2, 3, 0] rfl)
      · have hw := hw.2 c_2
        refine lv_iload_n hx hb dX5_withNeighbours_20 rfl (lv_at hl 2 rfl) ?_
        refine lv_aload_n hx hb dX5_withNeighbours_21 rfl (lv_at hl 0 rfl) ?_
        refine lv_iload_n hx hb dX5_withNeighbours_22 rfl (lv_at hl 3 rfl) ?_
        have hC9 : ([0, 1, 2, 3, 4]).map (fun i => (wd_X5_withNeighbours G h_this h_products h_quotients h_products_cells h_quotients_cells f_size f_badColumn a_products_cells a_quotients_cells)[i]?) = (wd_X5_neighbours G h_this h_products h_quotients h_products_cells h_quotients_cells f_size f_badColumn a_products_cells a_quotients_cells).map some := rfl
        refine qn_callI (wd := (fun u : Unit => wd_X5_withNeighbours G h_this h_products h_quotients h_products_cells h_quotients_cells f_size f_badColumn a_products_cells a_quotients_cells)) [0, 1, 2, 3, 4] (va_runV (As := [.int x3]) (rest := [.int x2]) ⟨hx, hb, hml, hown, hts⟩ (c_X5_neighbours G _ h_this h_products h_quotients h_products_cells h_quotients_cells f_size f_badColumn a_products_cells a_quotients_cells x3 hw) (cwV 1 hts gX5_withNeighbours_X5_neighbours rfl rfl rfl (by decide +kernel) ⟨Nat.le_of_ble_eq_true rfl, Nat.le_of_ble_eq_true rfl⟩) (qn_preV hE hP hD [0, 1, 2, 3, 4] hC9 (by decide +kernel) (ci := 5) rfl rfl) rfl rfl hl.1 rfl (lv_room (Nat.le_of_ble_eq_true rfl)) dX5_withNeighbours_23 ⟨Nat.le_of_ble_eq_true rfl, Nat.le_of_ble_eq_true rfl⟩) hP hD hS hA hC9 [some 0, some 1, some 2, some 3, some 4] (M := 5) rfl (by decide +kernel) (fun _ => rfl) (fun _ => rfl) (fun r_4 _ H locs hw hP hD hS => ?_)
        try dsimp only at hw
        have hP : va_P G.1 vwCl (wd_X5_withNeighbours G h_this h_products h_quotients h_products_cells h_quotients_cells f_size f_badColumn a_products_cells a_quotients_cells) H := hP
        have hD : va_D A (wd_X5_withNeighbours G h_this h_products h_quotients h_products_cells h_quotients_cells f_size f_badColumn a_products_cells a_quotients_cells) := hD
        refine lv_ior hx hb dX5_withNeighbours_26 ?_
        refine lv_topi (fun x2_5 ex2_5 => ?_)
        have hw := hw x2_5 ex2_5
        refine lv_istore_n (lv' := [(2, .int x2_5), (0, .ref h_this), (1, .int x1), (3, .int x3)]) hx hb dX5_withNeighbours_27 rfl hl (by decide) rfl (fun ls hl => ?_)
        obtain ⟨x3_6, ex3_6⟩ : ∃ y : Int32, y = x3 + 1 := ⟨_, rfl⟩
        have hw := hw x3_6 ex3_6
        refine lv_iinc (v := x3_6) (lv' := [(3, .int x3_6), (2, .int x2_5), (0, .ref h_this), (1, .int x1)]) hx hb dX5_withNeighbours_28 hl (k := 3) rfl (by rw [ex3_6]; rfl) (by decide) rfl (fun ls hl => ?_)
        refine lv_goto (tgt := 4) hx hb dX5_withNeighbours_31 (by decide) ?_
        exact ih x2_5 x3_6 hw _ _ _ hP hD hS (lv_sub hl [2, 3, 1, 0] rfl)
set_option maxHeartbeats 4000000 in
set_option maxRecDepth 100000 in
theorem c_X5_withNeighbours {l : Launch} (G : qn_G) (sz : Nat) (h_this h_products h_quotients h_products_cells h_quotients_cells : Nat) (f_size : Int32) (f_badColumn : Int32) (a_products_cells : Nat → Int32) (a_quotients_cells : Nat → Int32) (x1 : Int32) {post : Int32 → Prop} (hw : wp_X5_withNeighbours post f_size f_badColumn a_products_cells a_quotients_cells x1) : Met l yX5_withNeighbours wsX5_withNeighbours rm_X5_withNeighbours (qn_PC G [.ref h_this, .int x1] sz (wd_X5_withNeighbours G h_this h_products h_quotients h_products_cells h_quotients_cells f_size f_badColumn a_products_cells a_quotients_cells)) (qn_QI G (fun (r : Int32) (u : Unit) => post r) (fun u : Unit => wd_X5_withNeighbours G h_this h_products h_quotients h_products_cells h_quotients_cells f_size f_badColumn a_products_cells a_quotients_cells) (va_A (wd_X5_withNeighbours G h_this h_products h_quotients h_products_cells h_quotients_cells f_size f_badColumn a_products_cells a_quotients_cells) sz)) 0 0 (va_A (wd_X5_withNeighbours G h_this h_products h_quotients h_products_cells h_quotients_cells f_size f_badColumn a_products_cells a_quotients_cells) sz) := by
  refine Met.ofW (cc := cX5_withNeighbours) (maxL := 4) (ret := (some .int)) (by decide) rfl ?_
  intro p e s m args below meth c s₁ B hml hv
  obtain ⟨rfl, hsz, hP, hE, hD0⟩ := hv
  have C0 : qn_C p m c cX5_withNeighbours 4 s _ wsX5_withNeighbours RX5 meth (some .int) := qn_C0 B hml
  obtain ⟨hx, hb, -, hown, hts, hr, hlocks⟩ := id C0
  subst hsz
  have hD := hD0.self (sz := s.heap.size)
  generalize hAe : va_A (wd_X5_withNeighbours G h_this h_products h_quotients h_products_cells h_quotients_cells f_size f_badColumn a_products_cells a_quotients_cells) s.heap.size = A at hD ⊢
  have hA : ∀ q : Nat, s.heap.size ≤ q → A q := fun q h => by rw [← hAe]; exact Or.inr h
  clear hAe
  have hS : va_S A s.heap s.heap [] := va_S.rf
  have hl := lv_entry ([.ref h_this, .int x1]) (n := 4) (Nat.le_of_ble_eq_true rfl)
  rw [lg_entry_eq]
  generalize (lg_sl ([.ref h_this, .int x1]) ++ List.replicate (4 - (lg_sl ([.ref h_this, .int x1])).length) Slot.unset).toArray = ls at hl ⊢
  have hl : lv_has ls 4 [(0, .ref h_this), (1, .int x1)] := hl
  have hP : va_P G.1 vwCl (wd_X5_withNeighbours G h_this h_products h_quotients h_products_cells h_quotients_cells f_size f_badColumn a_products_cells a_quotients_cells) s.heap := hP
  refine lv_iload_n hx hb dX5_withNeighbours_0 rfl (lv_at hl 1 rfl) ?_
  refine lv_istore_n (lv' := [(2, .int x1), (0, .ref h_this), (1, .int x1)]) hx hb dX5_withNeighbours_1 rfl hl (by decide) rfl (fun ls hl => ?_)
  refine lv_iconst (v := 0) hx hb dX5_withNeighbours_2 (by decide) ?_
  refine lv_istore_n (lv' := [(3, .int 0), (2, .int x1), (0, .ref h_this), (1, .int x1)]) hx hb dX5_withNeighbours_3 rfl hl (by decide) rfl (fun ls hl => ?_)
  obtain ⟨fu_8, hw⟩ := hw
  refine l_X5_withNeighbours_4 (post := post) C0 hE hA (fun x2_7 hw H locs ls hP hD hS hl => ?_) fu_8 x1 0 hw _ _ _ hP hD hS (lv_sub hl [2, 3, 1, 0] rfl)
  refine lv_iload_n hx hb dX5_withNeighbours_34 rfl (lv_at hl 0 rfl) ?_
  exact W.iret (v := x2_7) hx hb hr (fun t ht hW => ⟨⟨x2_7, (), rfl, hw, by rw [ht]; exact hP, hD⟩, hS.F ht⟩) hS.2.2 dX5_withNeighbours_35
-- QuandleColorings$Operation.reachableFrom(I)I
abbrev rm_X5_reachableFrom : Room := { frames := 5, cells := 0, slots := 0, locals := 111 }
abbrev wd_X5_reachableFrom (G : qn_G) (h_this h_products h_quotients h_products_cells h_quotients_cells : Nat) (f_size : Int32) (f_badColumn : Int32) (a_products_cells : Nat → Int32) (a_quotients_cells : Nat → Int32) : va_W := [(h_this, .inr (5, [.int f_size, .ref h_products, .ref h_quotients, .int f_badColumn])), (h_products, .inr (2, [.ref h_products_cells])), (h_products_cells, .inl (G.2.1, 36, .inl a_products_cells)), (h_quotients, .inr (2, [.ref h_quotients_cells])), (h_quotients_cells, .inl (G.2.1, 36, .inl a_quotients_cells))]
theorem in_X5_reachableFrom_X5 : ∀ w ∈ u_ws RX5 TX5 4, w ∈ wsX5_reachableFrom := by decide +kernel
theorem lk_X5_reachableFrom_9 : Cond.fieldLink RX5 9 "QuandleColorings$Operation" "size" "I" ∈ wsX5_reachableFrom := by decide +kernel
def wp_X5_reachableFrom_L6 (post : Int32 → Prop) (KL6 : Int32 → Prop) (f_size : Int32) (f_badColumn : Int32) (a_products_cells : Nat → Int32) (a_quotients_cells : Nat → Int32) : Nat → Int32 → Int32 → Prop
  | 0 => fun _ _ => False
  | fu + 1 => fun x2 x3 => ((f_size ≤ x3 → (KL6 x2)) ∧ (¬ f_size ≤ x3 → (wp_X5_withNeighbours (fun (r_3 : Int32) => ((¬ r_3 = x2 → (∀ x3_5 : Int32, x3_5 = x3 + 1 → ((wp_X5_reachableFrom_L6 post KL6 f_size f_badColumn a_products_cells a_quotients_cells fu) r_3 x3_5))) ∧ (r_3 = x2 → (post x2)))) f_size f_badColumn a_products_cells a_quotients_cells x2)))
def wp_X5_reachableFrom (post : Int32 → Prop) (f_size : Int32) (f_badColumn : Int32) (a_products_cells : Nat → Int32) (a_quotients_cells : Nat → Int32) (x1 : Int32) : Prop := (∀ x2_1 : Int32, x2_1 = 1 <<< (x1 &&& 31) → (∃ fu_7 : Nat, wp_X5_reachableFrom_L6 post (fun (x2_6 : Int32) => (post x2_6)) f_size f_badColumn a_products_cells a_quotients_cells fu_7 x2_1 0))
set_option maxHeartbeats 4000000 in
set_option maxRecDepth 100000 in
theorem l_X5_reachableFrom_6 {p : Program} {l : Launch} {e : Env} {s : State} {m : MethodId} {args : Array Value} {below : List Frame} {meth : Method} {c : Code} {G : qn_G} {A : Nat → Prop} {h_this h_products h_quotients h_products_cells h_quotients_cells : Nat} {f_size : Int32} {f_badColumn : Int32} {a_products_cells : Nat → Int32} {a_quotients_cells : Nat → Int32} {post : Int32 → Prop} {KL6 : Int32 → Prop} (C0 : qn_C p m c cX5_reachableFrom 5 s args wsX5_reachableFrom RX5 meth (some .int)) (hE : qn_EV G s) (hA : ∀ q, s.heap.size ≤ q → A q) (hKc : ∀ (x2 : Int32), KL6 x2 → ∀ (H : Heap) (locs : List Loc) (ls : Array Slot), va_P G.1 vwCl (wd_X5_reachableFrom G h_this h_products h_quotients h_products_cells h_quotients_cells f_size f_badColumn a_products_cells a_quotients_cells) H → va_D A (wd_X5_reachableFrom G h_this h_products h_quotients h_products_cells h_quotients_cells f_size f_badColumn a_products_cells a_quotients_cells) → va_S A s.heap H locs → lv_has ls 5 [(2, .int x2)] → W p l e (headSpec wsX5_reachableFrom rm_X5_reachableFrom).room s m args below meth c H locs 0 0 (MQ below (qn_QI G (fun (r : Int32) (u : Unit) => post r) (fun u : Unit => wd_X5_reachableFrom G h_this h_products h_quotients h_products_cells h_quotients_cells f_size f_badColumn a_products_cells a_quotients_cells) A) args s 0 0 A) (F0 m 38 ls [])) :
    ∀ (fu : Nat) (x2 : Int32) (x3 : Int32), wp_X5_reachableFrom_L6 post KL6 f_size f_badColumn a_products_cells a_quotients_cells fu x2 x3 → ∀ (H : Heap) (locs : List Loc) (ls : Array Slot), va_P G.1 vwCl (wd_X5_reachableFrom G h_this h_products h_quotients h_products_cells h_quotients_cells f_size f_badColumn a_products_cells a_quotients_cells) H → va_D A (wd_X5_reachableFrom G h_this h_products h_quotients h_products_cells h_quotients_cells f_size f_badColumn a_products_cells a_quotients_cells) → va_S A s.heap H locs → lv_has ls 5 [(0, .ref h_this), (2, .int x2), (3, .int x3)] → W p l e (headSpec wsX5_reachableFrom rm_X5_reachableFrom).room s m args below meth c H locs 0 0 (MQ below (qn_QI G (fun (r : Int32) (u : Unit) => post r) (fun u : Unit => wd_X5_reachableFrom G h_this h_products h_quotients h_products_cells h_quotients_cells f_size f_badColumn a_products_cells a_quotients_cells) A) args s 0 0 A) (F0 m 6 ls []) := by
  obtain ⟨hx, hb, hml, hown, hts, hr, hlocks⟩ := id C0
  intro fu
  induction fu with
  | zero => intro x2 x3 hw; exact hw.elim
  | succ fu ih =>
    intro x2 x3 hw H locs ls hP hD hS hl
    refine lv_iload_n hx hb dX5_reachableFrom_6 rfl (lv_at hl 2 rfl) ?_
    refine lv_aload_n hx hb dX5_reachableFrom_7 rfl (lv_at hl 0 rfl) ?_
    refine va_get (D := G.1) (ci := 5) (v := .int f_size) (C := RX5) (T := TX5) (N := 4) hx hb hts in_X5_reachableFrom_X5 hown hE.1 hP 0 rfl rfl 0 (by decide) (hts (.fieldLink RX5 9 "QuandleColorings$Operation" "size" "I") lk_X5_reachableFrom_9) (fun _ h9 => h9) rfl dX5_reachableFrom_8 ?_
    refine lv_icmp_ge (tgt := 38) hx hb dX5_reachableFrom_11 (by decide) (fun c_2 => ?_) (fun c_2 => ?_)
    · have hw := hw.1 c_2
      exact hKc x2 hw _ _ _ hP hD hS (lv_sub hl [1] rfl)
    · have hw := hw.2 c_2
      refine lv_aload_n hx hb dX5_reachableFrom_14 rfl (lv_at hl 0 rfl) ?_
      refine lv_iload_n hx hb dX5_reachableFrom_15 rfl (lv_at hl 1 rfl) ?_
      have hC9 : ([0, 1, 2, 3, 4]).map (fun i => (wd_X5_reachableFrom G h_this h_products h_quotients h_products_cells h_quotients_cells f_size f_badColumn a_products_cells a_quotients_cells)[i]?) = (wd_X5_withNeighbours G h_this h_products h_quotients h_products_cells h_quotients_cells f_size f_badColumn a_products_cells a_quotients_cells).map some := rfl
      refine qn_callI (wd := (fun u : Unit => wd_X5_reachableFrom G h_this h_products h_quotients h_products_cells h_quotients_cells f_size f_badColumn a_products_cells a_quotients_cells)) [0, 1, 2, 3, 4] (va_runV (As := [.int x2]) (rest := []) ⟨hx, hb, hml, hown, hts⟩ (c_X5_withNeighbours G _ h_this h_products h_quotients h_products_cells h_quotients_cells f_size f_badColumn a_products_cells a_quotients_cells x2 hw) (cwV 1 hts gX5_reachableFrom_X5_withNeighbours rfl rfl rfl (by decide +kernel) ⟨Nat.le_of_ble_eq_true rfl, Nat.le_of_ble_eq_true rfl⟩) (qn_preV hE hP hD [0, 1, 2, 3, 4] hC9 (by decide +kernel) (ci := 5) rfl rfl) rfl rfl hl.1 rfl (lv_room (Nat.le_of_ble_eq_true rfl)) dX5_reachableFrom_16 ⟨Nat.le_of_ble_eq_true rfl, Nat.le_of_ble_eq_true rfl⟩) hP hD hS hA hC9 [some 0, some 1, some 2, some 3, some 4] (M := 5) rfl (by decide +kernel) (fun _ => rfl) (fun _ => rfl) (fun r_3 _ H locs hw hP hD hS => ?_)
      try dsimp only at hw
      have hP : va_P G.1 vwCl (wd_X5_reachableFrom G h_this h_products h_quotients h_products_cells h_quotients_cells f_size f_badColumn a_products_cells a_quotients_cells) H := hP
      have hD : va_D A (wd_X5_reachableFrom G h_this h_products h_quotients h_products_cells h_quotients_cells f_size f_badColumn a_products_cells a_quotients_cells) := hD
      refine lv_istore (lv' := [(4, .int r_3), (0, .ref h_this), (2, .int x2), (3, .int x3)]) hx hb dX5_reachableFrom_19 hl (by decide) rfl (fun ls hl => ?_)
      refine lv_iload hx hb dX5_reachableFrom_21 (lv_at hl 0 rfl) ?_
      refine lv_iload_n hx hb dX5_reachableFrom_23 rfl (lv_at hl 2 rfl) ?_
      refine lv_icmp_ne (tgt := 29) hx hb dX5_reachableFrom_24 (by decide) (fun c_4 => ?_) (fun c_4 => ?_)
      · have hw := hw.1 c_4
        refine lv_iload hx hb dX5_reachableFrom_29 (lv_at hl 0 rfl) ?_
        refine lv_istore_n (lv' := [(2, .int r_3), (4, .int r_3), (0, .ref h_this), (3, .int x3)]) hx hb dX5_reachableFrom_31 rfl hl (by decide) rfl (fun ls hl => ?_)
        obtain ⟨x3_5, ex3_5⟩ : ∃ y : Int32, y = x3 + 1 := ⟨_, rfl⟩
        have hw := hw x3_5 ex3_5
        refine lv_iinc (v := x3_5) (lv' := [(3, .int x3_5), (2, .int r_3), (4, .int r_3), (0, .ref h_this)]) hx hb dX5_reachableFrom_32 hl (k := 3) rfl (by rw [ex3_5]; rfl) (by decide) rfl (fun ls hl => ?_)
        refine lv_goto (tgt := 6) hx hb dX5_reachableFrom_35 (by decide) ?_
        exact ih r_3 x3_5 hw _ _ _ hP hD hS (lv_sub hl [3, 1, 0] rfl)
      · have hw := hw.2 c_4
        refine lv_iload_n hx hb dX5_reachableFrom_27 rfl (lv_at hl 2 rfl) ?_
        exact W.iret (v := x2) hx hb hr (fun t ht hW => ⟨⟨x2, (), rfl, hw, by rw [ht]; exact hP, hD⟩, hS.F ht⟩) hS.2.2 dX5_reachableFrom_28
set_option maxHeartbeats 4000000 in
set_option maxRecDepth 100000 in
theorem c_X5_reachableFrom {l : Launch} (G : qn_G) (sz : Nat) (h_this h_products h_quotients h_products_cells h_quotients_cells : Nat) (f_size : Int32) (f_badColumn : Int32) (a_products_cells : Nat → Int32) (a_quotients_cells : Nat → Int32) (x1 : Int32) {post : Int32 → Prop} (hw : wp_X5_reachableFrom post f_size f_badColumn a_products_cells a_quotients_cells x1) : Met l yX5_reachableFrom wsX5_reachableFrom rm_X5_reachableFrom (qn_PC G [.ref h_this, .int x1] sz (wd_X5_reachableFrom G h_this h_products h_quotients h_products_cells h_quotients_cells f_size f_badColumn a_products_cells a_quotients_cells)) (qn_QI G (fun (r : Int32) (u : Unit) => post r) (fun u : Unit => wd_X5_reachableFrom G h_this h_products h_quotients h_products_cells h_quotients_cells f_size f_badColumn a_products_cells a_quotients_cells) (va_A (wd_X5_reachableFrom G h_this h_products h_quotients h_products_cells h_quotients_cells f_size f_badColumn a_products_cells a_quotients_cells) sz)) 0 0 (va_A (wd_X5_reachableFrom G h_this h_products h_quotients h_products_cells h_quotients_cells f_size f_badColumn a_products_cells a_quotients_cells) sz) := by
  refine Met.ofW (cc := cX5_reachableFrom) (maxL := 5) (ret := (some .int)) (by decide) rfl ?_
  intro p e s m args below meth c s₁ B hml hv
  obtain ⟨rfl, hsz, hP, hE, hD0⟩ := hv
  have C0 : qn_C p m c cX5_reachableFrom 5 s _ wsX5_reachableFrom RX5 meth (some .int) := qn_C0 B hml
  obtain ⟨hx, hb, -, hown, hts, hr, hlocks⟩ := id C0
  subst hsz
  have hD := hD0.self (sz := s.heap.size)
  generalize hAe : va_A (wd_X5_reachableFrom G h_this h_products h_quotients h_products_cells h_quotients_cells f_size f_badColumn a_products_cells a_quotients_cells) s.heap.size = A at hD ⊢
  have hA : ∀ q : Nat, s.heap.size ≤ q → A q := fun q h => by rw [← hAe]; exact Or.inr h
  clear hAe
  have hS : va_S A s.heap s.heap [] := va_S.rf
  have hl := lv_entry ([.ref h_this, .int x1]) (n := 5) (Nat.le_of_ble_eq_true rfl)
  rw [lg_entry_eq]
  generalize (lg_sl ([.ref h_this, .int x1]) ++ List.replicate (5 - (lg_sl ([.ref h_this, .int x1])).length) Slot.unset).toArray = ls at hl ⊢
  have hl : lv_has ls 5 [(0, .ref h_this), (1, .int x1)] := hl
  have hP : va_P G.1 vwCl (wd_X5_reachableFrom G h_this h_products h_quotients h_products_cells h_quotients_cells f_size f_badColumn a_products_cells a_quotients_cells) s.heap := hP
  refine lv_iconst (v := 1) hx hb dX5_reachableFrom_0 (by decide) ?_
  refine lv_iload_n hx hb dX5_reachableFrom_1 rfl (lv_at hl 1 rfl) ?_
  refine lv_ishl hx hb dX5_reachableFrom_2 ?_
  refine lv_topi (fun x2_1 ex2_1 => ?_)
  have hw := hw x2_1 ex2_1
  refine lv_istore_n (lv' := [(2, .int x2_1), (0, .ref h_this), (1, .int x1)]) hx hb dX5_reachableFrom_3 rfl hl (by decide) rfl (fun ls hl => ?_)
  refine lv_iconst (v := 0) hx hb dX5_reachableFrom_4 (by decide) ?_
  refine lv_istore_n (lv' := [(3, .int 0), (2, .int x2_1), (0, .ref h_this), (1, .int x1)]) hx hb dX5_reachableFrom_5 rfl hl (by decide) rfl (fun ls hl => ?_)
  obtain ⟨fu_7, hw⟩ := hw
  refine l_X5_reachableFrom_6 (post := post) C0 hE hA (fun x2_6 hw H locs ls hP hD hS hl => ?_) fu_7 x2_1 0 hw _ _ _ hP hD hS (lv_sub hl [2, 1, 0] rfl)
  refine lv_iload_n hx hb dX5_reachableFrom_38 rfl (lv_at hl 0 rfl) ?_
  exact W.iret (v := x2_6) hx hb hr (fun t ht hW => ⟨⟨x2_6, (), rfl, hw, by rw [ht]; exact hP, hD⟩, hS.F ht⟩) hS.2.2 dX5_reachableFrom_39
-- QuandleColorings$Weights.restart(I)V
abbrev rm_X8_restart : Room := { frames := 1, cells := 0, slots := 0, locals := 21 }
abbrev wd_X8_restart (G : qn_G) (h_this h_values h_values_cells : Nat) (f_modulus : Int32) (a_values_cells : Nat → Int32) : va_W := [(h_this, .inr (8, [.int f_modulus, .ref h_values])), (h_values, .inr (2, [.ref h_values_cells])), (h_values_cells, .inl (G.2.1, 36, .inl a_values_cells))]
theorem in_X8_restart_X8 : ∀ w ∈ u_ws RX8 TX8 2, w ∈ wsX8_restart := by decide +kernel
theorem lk_X8_restart_18 : Cond.fieldLink RX8 18 "QuandleColorings$Weights" "values" "LQuandleColorings$Grid;" ∈ wsX8_restart := by decide +kernel
theorem lk_X8_restart_9 : Cond.fieldLink RX8 9 "QuandleColorings$Weights" "modulus" "I" ∈ wsX8_restart := by decide +kernel
def wp_X8_restart (post : Int32 → (Nat → Int32) → Prop) (a_values_cells : Nat → Int32) (x1 : Int32) : Prop := (wp_X2_clear (fun (a_values_cells_1 : Nat → Int32) => (post x1 a_values_cells_1)) a_values_cells)
set_option maxHeartbeats 4000000 in
set_option maxRecDepth 100000 in
theorem c_X8_restart {l : Launch} (G : qn_G) (sz : Nat) (h_this h_values h_values_cells : Nat) (f_modulus : Int32) (a_values_cells : Nat → Int32) (x1 : Int32) {post : Int32 → (Nat → Int32) → Prop} (hw : wp_X8_restart post a_values_cells x1) : Met l yX8_restart wsX8_restart rm_X8_restart (qn_PC G [.ref h_this, .int x1] sz (wd_X8_restart G h_this h_values h_values_cells f_modulus a_values_cells)) (qn_QV G (fun (u : Int32 × (Nat → Int32)) => post u.1 u.2) (fun u : Int32 × (Nat → Int32) => wd_X8_restart G h_this h_values h_values_cells (u.1) (u.2)) (va_A (wd_X8_restart G h_this h_values h_values_cells f_modulus a_values_cells) sz)) 0 0 (va_A (wd_X8_restart G h_this h_values h_values_cells f_modulus a_values_cells) sz) := by
  refine Met.ofW (cc := cX8_restart) (maxL := 2) (ret := none) (by decide) rfl ?_
  intro p e s m args below meth c s₁ B hml hv
  obtain ⟨rfl, hsz, hP, hE, hD0⟩ := hv
  have C0 : qn_C p m c cX8_restart 2 s _ wsX8_restart RX8 meth none := qn_C0 B hml
  obtain ⟨hx, hb, -, hown, hts, hr, hlocks⟩ := id C0
  subst hsz
  have hD := hD0.self (sz := s.heap.size)
  generalize hAe : va_A (wd_X8_restart G h_this h_values h_values_cells f_modulus a_values_cells) s.heap.size = A at hD ⊢
  have hA : ∀ q : Nat, s.heap.size ≤ q → A q := fun q h => by rw [← hAe]; exact Or.inr h
  clear hAe
  have hS : va_S A s.heap s.heap [] := va_S.rf
  have hl := lv_entry ([.ref h_this, .int x1]) (n := 2) (Nat.le_of_ble_eq_true rfl)
  rw [lg_entry_eq]
  generalize (lg_sl ([.ref h_this, .int x1]) ++ List.replicate (2 - (lg_sl ([.ref h_this, .int x1])).length) Slot.unset).toArray = ls at hl ⊢
  have hl : lv_has ls 2 [(0, .ref h_this), (1, .int x1)] := hl
  have hP : va_P G.1 vwCl (wd_X8_restart G h_this h_values h_values_cells f_modulus a_values_cells) s.heap := hP
  refine lv_aload_n hx hb dX8_restart_0 rfl (lv_at hl 0 rfl) ?_
  refine lv_iload_n hx hb dX8_restart_1 rfl (lv_at hl 1 rfl) ?_
  refine va_put (D := G.1) (ci := 8) (v := .int x1) (ty := .int) (C := RX8) (T := TX8) (N := 2) hx hb hts in_X8_restart_X8 tyX8 tyX8_ok nmX8 hown hE.1 hP hD hS 0 rfl rfl 0 (by decide) (hts (.fieldLink RX8 9 "QuandleColorings$Weights" "modulus" "I") lk_X8_restart_9) (fun _ h9 => h9) rfl (by decide +kernel) rfl rfl (Nat.le_of_ble_eq_true rfl) dX8_restart_2 (fun H locs hP hD hS => ?_)
  have hP : va_P G.1 vwCl (wd_X8_restart G h_this h_values h_values_cells x1 a_values_cells) H := hP
  have hD : va_D A (wd_X8_restart G h_this h_values h_values_cells x1 a_values_cells) := hD
  refine lv_aload_n hx hb dX8_restart_5 rfl (lv_at hl 0 rfl) ?_
  refine va_get (D := G.1) (ci := 8) (v := .ref h_values) (C := RX8) (T := TX8) (N := 2) hx hb hts in_X8_restart_X8 hown hE.1 hP 0 rfl rfl 1 (by decide) (hts (.fieldLink RX8 18 "QuandleColorings$Weights" "values" "LQuandleColorings$Grid;") lk_X8_restart_18) (fun _ h9 => h9) rfl dX8_restart_6 ?_
  have hC9 : ([1, 2]).map (fun i => (wd_X8_restart G h_this h_values h_values_cells x1 a_values_cells)[i]?) = (wd_X2_clear G h_values h_values_cells a_values_cells).map some := rfl
  refine qn_callV (wd := (fun u : (Nat → Int32) => wd_X8_restart G h_this h_values h_values_cells x1 u)) [1, 2] (va_runV (As := []) (rest := []) ⟨hx, hb, hml, hown, hts⟩ (c_X2_clear G _ h_values h_values_cells a_values_cells hw) (cwV 0 hts gX8_restart_X2_clear rfl rfl rfl (by decide +kernel) ⟨Nat.le_of_ble_eq_true rfl, Nat.le_of_ble_eq_true rfl⟩) (qn_preV hE hP hD [1, 2] hC9 (by decide +kernel) (ci := 2) rfl rfl) rfl rfl hl.1 rfl (lv_room (Nat.le_of_ble_eq_true rfl)) dX8_restart_9 ⟨Nat.le_of_ble_eq_true rfl, Nat.le_of_ble_eq_true rfl⟩) hP hD hS hA hC9 [none, some 0, some 1] (M := 3) rfl (by decide +kernel) (fun _ => rfl) (fun _ => rfl) (fun a_values_cells_1 H locs hw hP hD hS => ?_)
  try dsimp only at hw
  have hP : va_P G.1 vwCl (wd_X8_restart G h_this h_values h_values_cells x1 a_values_cells_1) H := hP
  have hD : va_D A (wd_X8_restart G h_this h_values h_values_cells x1 a_values_cells_1) := hD
  exact W.vret hx hb hr (fun t ht hW => ⟨⟨(x1, a_values_cells_1), rfl, hw, by rw [ht]; exact hP, hD⟩, hS.F ht⟩) hS.2.2 dX8_restart_12
-- QuandleColorings$State.becomeInitial()V
abbrev rm_X6_becomeInitial : Room := { frames := 5, cells := 0, slots := 0, locals := 115 }
abbrev wd_X6_becomeInitial (G : qn_G) (h_this h_operation h_braid h_weights h_operation_products h_operation_quotients h_operation_products_cells h_operation_quotients_cells h_braid_crossings h_weights_values h_weights_values_cells : Nat) (f_operation_size : Int32) (f_operation_badColumn : Int32) (a_operation_products_cells : Nat → Int32) (a_operation_quotients_cells : Nat → Int32) (f_braid_strands : Int32) (f_braid_count : Int32) (a_braid_crossings : Nat → Int32) (f_weights_modulus : Int32) (a_weights_values_cells : Nat → Int32) : va_W := [(h_this, .inr (6, [.ref h_operation, .ref h_braid, .ref h_weights])), (h_operation, .inr (5, [.int f_operation_size, .ref h_operation_products, .ref h_operation_quotients, .int f_operation_badColumn])), (h_operation_products, .inr (2, [.ref h_operation_products_cells])), (h_operation_products_cells, .inl (G.2.1, 36, .inl a_operation_products_cells)), (h_operation_quotients, .inr (2, [.ref h_operation_quotients_cells])), (h_operation_quotients_cells, .inl (G.2.1, 36, .inl a_operation_quotients_cells)), (h_braid, .inr (1, [.int f_braid_strands, .int f_braid_count, .ref h_braid_crossings])), (h_braid_crossings, .inl (G.2.1, 12, .inl a_braid_crossings)), (h_weights, .inr (8, [.int f_weights_modulus, .ref h_weights_values])), (h_weights_values, .inr (2, [.ref h_weights_values_cells])), (h_weights_values_cells, .inl (G.2.1, 36, .inl a_weights_values_cells))]
theorem in_X6_becomeInitial_X6 : ∀ w ∈ u_ws RX6 TX6 3, w ∈ wsX6_becomeInitial := by decide +kernel
theorem lk_X6_becomeInitial_10 : Cond.fieldLink RX6 10 "QuandleColorings$State" "operation" "LQuandleColorings$Operation;" ∈ wsX6_becomeInitial := by decide +kernel
theorem lk_X6_becomeInitial_19 : Cond.fieldLink RX6 19 "QuandleColorings$State" "braid" "LQuandleColorings$Braid;" ∈ wsX6_becomeInitial := by decide +kernel
theorem lk_X6_becomeInitial_26 : Cond.fieldLink RX6 26 "QuandleColorings$State" "weights" "LQuandleColorings$Weights;" ∈ wsX6_becomeInitial := by decide +kernel
def wp_X6_becomeInitial (post : Int32 → Int32 → (Nat → Int32) → (Nat → Int32) → Int32 → Int32 → (Nat → Int32) → Int32 → (Nat → Int32) → Prop) (a_operation_products_cells : Nat → Int32) (a_operation_quotients_cells : Nat → Int32) (a_braid_crossings : Nat → Int32) (a_weights_values_cells : Nat → Int32) : Prop := (wp_X5_becomeLinear (fun (f_operation_size_1 : Int32) (f_operation_badColumn_2 : Int32) (a_operation_products_cells_3 : Nat → Int32) (a_operation_quotients_cells_4 : Nat → Int32) => (wp_X1_restart (fun (f_braid_strands_6 : Int32) (f_braid_count_7 : Int32) => (wp_X1_append (fun (f_braid_count_9 : Int32) (a_braid_crossings_10 : Nat → Int32) => (wp_X1_append (fun (f_braid_count_12 : Int32) (a_braid_crossings_13 : Nat → Int32) => (wp_X1_append (fun (f_braid_count_15 : Int32) (a_braid_crossings_16 : Nat → Int32) => (wp_X8_restart (fun (f_weights_modulus_18 : Int32) (a_weights_values_cells_19 : Nat → Int32) => (post f_operation_size_1 f_operation_badColumn_2 a_operation_products_cells_3 a_operation_quotients_cells_4 f_braid_strands_6 f_braid_count_15 a_braid_crossings_16 f_weights_modulus_18 a_weights_values_cells_19)) a_weights_values_cells 3)) f_braid_count_12 a_braid_crossings_13 1)) f_braid_count_9 a_braid_crossings_10 1)) f_braid_count_7 a_braid_crossings 1)) 2)) a_operation_products_cells a_operation_quotients_cells 3 (-1) 2 0)
set_option maxHeartbeats 4000000 in
set_option maxRecDepth 100000 in
theorem c_X6_becomeInitial {l : Launch} (G : qn_G) (sz : Nat) (h_this h_operation h_braid h_weights h_operation_products h_operation_quotients h_operation_products_cells h_operation_quotients_cells h_braid_crossings h_weights_values h_weights_values_cells : Nat) (f_operation_size : Int32) (f_operation_badColumn : Int32) (a_operation_products_cells : Nat → Int32) (a_operation_quotients_cells : Nat → Int32) (f_braid_strands : Int32) (f_braid_count : Int32) (a_braid_crossings : Nat → Int32) (f_weights_modulus : Int32) (a_weights_values_cells : Nat → Int32) {post : Int32 → Int32 → (Nat → Int32) → (Nat → Int32) → Int32 → Int32 → (Nat → Int32) → Int32 → (Nat → Int32) → Prop} (hw : wp_X6_becomeInitial post a_operation_products_cells a_operation_quotients_cells a_braid_crossings a_weights_values_cells) : Met l yX6_becomeInitial wsX6_becomeInitial rm_X6_becomeInitial (qn_PC G [.ref h_this] sz (wd_X6_becomeInitial G h_this h_operation h_braid h_weights h_operation_products h_operation_quotients h_operation_products_cells h_operation_quotients_cells h_braid_crossings h_weights_values h_weights_values_cells f_operation_size f_operation_badColumn a_operation_products_cells a_operation_quotients_cells f_braid_strands f_braid_count a_braid_crossings f_weights_modulus a_weights_values_cells)) (qn_QV G (fun (u : Int32 × Int32 × (Nat → Int32) × (Nat → Int32) × Int32 × Int32 × (Nat → Int32) × Int32 × (Nat → Int32)) => post u.1 u.2.1 u.2.2.1 u.2.2.2.1 u.2.2.2.2.1 u.2.2.2.2.2.1 u.2.2.2.2.2.2.1 u.2.2.2.2.2.2.2.1 u.2.2.2.2.2.2.2.2) (fun u : Int32 × Int32 × (Nat → Int32) × (Nat → Int32) × Int32 × Int32 × (Nat → Int32) × Int32 × (Nat → Int32) => wd_X6_becomeInitial G h_this h_operation h_braid h_weights h_operation_products h_operation_quotients h_operation_products_cells h_operation_quotients_cells h_braid_crossings h_weights_values h_weights_values_cells (u.1) (u.2.1) (u.2.2.1) (u.2.2.2.1) (u.2.2.2.2.1) (u.2.2.2.2.2.1) (u.2.2.2.2.2.2.1) (u.2.2.2.2.2.2.2.1) (u.2.2.2.2.2.2.2.2)) (va_A (wd_X6_becomeInitial G h_this h_operation h_braid h_weights h_operation_products h_operation_quotients h_operation_products_cells h_operation_quotients_cells h_braid_crossings h_weights_values h_weights_values_cells f_operation_size f_operation_badColumn a_operation_products_cells a_operation_quotients_cells f_braid_strands f_braid_count a_braid_crossings f_weights_modulus a_weights_values_cells) sz)) 0 0 (va_A (wd_X6_becomeInitial G h_this h_operation h_braid h_weights h_operation_products h_operation_quotients h_operation_products_cells h_operation_quotients_cells h_braid_crossings h_weights_values h_weights_values_cells f_operation_size f_operation_badColumn a_operation_products_cells a_operation_quotients_cells f_braid_strands f_braid_count a_braid_crossings f_weights_modulus a_weights_values_cells) sz) := by
  refine Met.ofW (cc := cX6_becomeInitial) (maxL := 1) (ret := none) (by decide) rfl ?_
  intro p e s m args below meth c s₁ B hml hv
  obtain ⟨rfl, hsz, hP, hE, hD0⟩ := hv
  have C0 : qn_C p m c cX6_becomeInitial 1 s _ wsX6_becomeInitial RX6 meth none := qn_C0 B hml
  obtain ⟨hx, hb, -, hown, hts, hr, hlocks⟩ := id C0
  subst hsz
  have hD := hD0.self (sz := s.heap.size)
  generalize hAe : va_A (wd_X6_becomeInitial G h_this h_operation h_braid h_weights h_operation_products h_operation_quotients h_operation_products_cells h_operation_quotients_cells h_braid_crossings h_weights_values h_weights_values_cells f_operation_size f_operation_badColumn a_operation_products_cells a_operation_quotients_cells f_braid_strands f_braid_count a_braid_crossings f_weights_modulus a_weights_values_cells) s.heap.size = A at hD ⊢
  have hA : ∀ q : Nat, s.heap.size ≤ q → A q := fun q h => by rw [← hAe]; exact Or.inr h
  clear hAe
  have hS : va_S A s.heap s.heap [] := va_S.rf
  have hl := lv_entry ([.ref h_this]) (n := 1) (Nat.le_of_ble_eq_true rfl)
  rw [lg_entry_eq]
  generalize (lg_sl ([.ref h_this]) ++ List.replicate (1 - (lg_sl ([.ref h_this])).length) Slot.unset).toArray = ls at hl ⊢
  have hl : lv_has ls 1 [(0, .ref h_this)] := hl
  have hP : va_P G.1 vwCl (wd_X6_becomeInitial G h_this h_operation h_braid h_weights h_operation_products h_operation_quotients h_operation_products_cells h_operation_quotients_cells h_braid_crossings h_weights_values h_weights_values_cells f_operation_size f_operation_badColumn a_operation_products_cells a_operation_quotients_cells f_braid_strands f_braid_count a_braid_crossings f_weights_modulus a_weights_values_cells) s.heap := hP
  refine lv_aload_n hx hb dX6_becomeInitial_0 rfl (lv_at hl 0 rfl) ?_
  refine va_get (D := G.1) (ci := 6) (v := .ref h_operation) (C := RX6) (T := TX6) (N := 3) hx hb hts in_X6_becomeInitial_X6 hown hE.1 hP 0 rfl rfl 0 (by decide) (hts (.fieldLink RX6 10 "QuandleColorings$State" "operation" "LQuandleColorings$Operation;") lk_X6_becomeInitial_10) (fun _ h9 => h9) rfl dX6_becomeInitial_1 ?_
  refine lv_iconst (v := 3) hx hb dX6_becomeInitial_4 (by decide) ?_
  refine lv_iconst (v := (-1)) hx hb dX6_becomeInitial_5 (by decide) ?_
  refine lv_iconst (v := 2) hx hb dX6_becomeInitial_6 (by decide) ?_
  refine lv_iconst (v := 0) hx hb dX6_becomeInitial_7 (by decide) ?_
  have hC9 : ([1, 2, 3, 4, 5]).map (fun i => (wd_X6_becomeInitial G h_this h_operation h_braid h_weights h_operation_products h_operation_quotients h_operation_products_cells h_operation_quotients_cells h_braid_crossings h_weights_values h_weights_values_cells f_operation_size f_operation_badColumn a_operation_products_cells a_operation_quotients_cells f_braid_strands f_braid_count a_braid_crossings f_weights_modulus a_weights_values_cells)[i]?) = (wd_X5_becomeLinear G h_operation h_operation_products h_operation_quotients h_operation_products_cells h_operation_quotients_cells f_operation_size f_operation_badColumn a_operation_products_cells a_operation_quotients_cells).map some := rfl
  refine qn_callV (wd := (fun u : Int32 × Int32 × (Nat → Int32) × (Nat → Int32) => wd_X6_becomeInitial G h_this h_operation h_braid h_weights h_operation_products h_operation_quotients h_operation_products_cells h_operation_quotients_cells h_braid_crossings h_weights_values h_weights_values_cells (u.1) (u.2.1) (u.2.2.1) (u.2.2.2) f_braid_strands f_braid_count a_braid_crossings f_weights_modulus a_weights_values_cells)) [1, 2, 3, 4, 5] (va_runV (As := [.int 3, .int (-1), .int 2, .int 0]) (rest := []) ⟨hx, hb, hml, hown, hts⟩ (c_X5_becomeLinear G _ h_operation h_operation_products h_operation_quotients h_operation_products_cells h_operation_quotients_cells f_operation_size f_operation_badColumn a_operation_products_cells a_operation_quotients_cells 3 (-1) 2 0 hw) (cwV 4 hts gX6_becomeInitial_X5_becomeLinear rfl rfl rfl (by decide +kernel) ⟨Nat.le_of_ble_eq_true rfl, Nat.le_of_ble_eq_true rfl⟩) (qn_preV hE hP hD [1, 2, 3, 4, 5] hC9 (by decide +kernel) (ci := 5) rfl rfl) rfl rfl hl.1 rfl (lv_room (Nat.le_of_ble_eq_true rfl)) dX6_becomeInitial_8 ⟨Nat.le_of_ble_eq_true rfl, Nat.le_of_ble_eq_true rfl⟩) hP hD hS hA hC9 [none, some 0, some 1, some 2, some 3, some 4, none, none, none, none, none] (M := 11) rfl (by decide +kernel) (fun _ => rfl) (fun _ => rfl) (fun u_5 H locs hw hP hD hS => ?_)
  obtain ⟨f_operation_size_1, f_operation_badColumn_2, a_operation_products_cells_3, a_operation_quotients_cells_4⟩ := u_5
  try dsimp only at hw
  have hP : va_P G.1 vwCl (wd_X6_becomeInitial G h_this h_operation h_braid h_weights h_operation_products h_operation_quotients h_operation_products_cells h_operation_quotients_cells h_braid_crossings h_weights_values h_weights_values_cells f_operation_size_1 f_operation_badColumn_2 a_operation_products_cells_3 a_operation_quotients_cells_4 f_braid_strands f_braid_count a_braid_crossings f_weights_modulus a_weights_values_cells) H := hP
  have hD : va_D A (wd_X6_becomeInitial G h_this h_operation h_braid h_weights h_operation_products h_operation_quotients h_operation_products_cells h_operation_quotients_cells h_braid_crossings h_weights_values h_weights_values_cells f_operation_size_1 f_operation_badColumn_2 a_operation_products_cells_3 a_operation_quotients_cells_4 f_braid_strands f_braid_count a_braid_crossings f_weights_modulus a_weights_values_cells) := hD
  refine lv_aload_n hx hb dX6_becomeInitial_11 rfl (lv_at hl 0 rfl) ?_
  refine va_get (D := G.1) (ci := 6) (v := .ref h_braid) (C := RX6) (T := TX6) (N := 3) hx hb hts in_X6_becomeInitial_X6 hown hE.1 hP 0 rfl rfl 1 (by decide) (hts (.fieldLink RX6 19 "QuandleColorings$State" "braid" "LQuandleColorings$Braid;") lk_X6_becomeInitial_19) (fun _ h9 => h9) rfl dX6_becomeInitial_12 ?_
  refine lv_iconst (v := 2) hx hb dX6_becomeInitial_15 (by decide) ?_
  have hC9 : ([6]).map (fun i => (wd_X6_becomeInitial G h_this h_operation h_braid h_weights h_operation_products h_operation_quotients h_operation_products_cells h_operation_quotients_cells h_braid_crossings h_weights_values h_weights_values_cells f_operation_size_1 f_operation_badColumn_2 a_operation_products_cells_3 a_operation_quotients_cells_4 f_braid_strands f_braid_count a_braid_crossings f_weights_modulus a_weights_values_cells)[i]?) = (wd_X1_restart G h_braid h_braid_crossings f_braid_strands f_braid_count).map some := rfl
  refine qn_callV (wd := (fun u : Int32 × Int32 => wd_X6_becomeInitial G h_this h_operation h_braid h_weights h_operation_products h_operation_quotients h_operation_products_cells h_operation_quotients_cells h_braid_crossings h_weights_values h_weights_values_cells f_operation_size_1 f_operation_badColumn_2 a_operation_products_cells_3 a_operation_quotients_cells_4 (u.1) (u.2) a_braid_crossings f_weights_modulus a_weights_values_cells)) [6] (va_runV (As := [.int 2]) (rest := []) ⟨hx, hb, hml, hown, hts⟩ (c_X1_restart G _ h_braid h_braid_crossings f_braid_strands f_braid_count 2 hw) (cwV 1 hts gX6_becomeInitial_X1_restart rfl rfl rfl (by decide +kernel) ⟨Nat.le_of_ble_eq_true rfl, Nat.le_of_ble_eq_true rfl⟩) (qn_preV hE hP hD [6] hC9 (by decide +kernel) (ci := 1) rfl rfl) rfl rfl hl.1 rfl (lv_room (Nat.le_of_ble_eq_true rfl)) dX6_becomeInitial_16 ⟨Nat.le_of_ble_eq_true rfl, Nat.le_of_ble_eq_true rfl⟩) hP hD hS hA hC9 [none, none, none, none, none, none, some 0, none, none, none, none] (M := 11) rfl (by decide +kernel) (fun _ => rfl) (fun _ => rfl) (fun u_8 H locs hw hP hD hS => ?_)
  obtain ⟨f_braid_strands_6, f_braid_count_7⟩ := u_8
  try dsimp only at hw
  have hP : va_P G.1 vwCl (wd_X6_becomeInitial G h_this h_operation h_braid h_weights h_operation_products h_operation_quotients h_operation_products_cells h_operation_quotients_cells h_braid_crossings h_weights_values h_weights_values_cells f_operation_size_1 f_operation_badColumn_2 a_operation_products_cells_3 a_operation_quotients_cells_4 f_braid_strands_6 f_braid_count_7 a_braid_crossings f_weights_modulus a_weights_values_cells) H := hP
  have hD : va_D A (wd_X6_becomeInitial G h_this h_operation h_braid h_weights h_operation_products h_operation_quotients h_operation_products_cells h_operation_quotients_cells h_braid_crossings h_weights_values h_weights_values_cells f_operation_size_1 f_operation_badColumn_2 a_operation_products_cells_3 a_operation_quotients_cells_4 f_braid_strands_6 f_braid_count_7 a_braid_crossings f_weights_modulus a_weights_values_cells) := hD
  refine lv_aload_n hx hb dX6_becomeInitial_19 rfl (lv_at hl 0 rfl) ?_
  refine va_get (D := G.1) (ci := 6) (v := .ref h_braid) (C := RX6) (T := TX6) (N := 3) hx hb hts in_X6_becomeInitial_X6 hown hE.1 hP 0 rfl rfl 1 (by decide) (hts (.fieldLink RX6 19 "QuandleColorings$State" "braid" "LQuandleColorings$Braid;") lk_X6_becomeInitial_19) (fun _ h9 => h9) rfl dX6_becomeInitial_20 ?_
  refine lv_iconst (v := 1) hx hb dX6_becomeInitial_23 (by decide) ?_
  have hC9 : ([6, 7]).map (fun i => (wd_X6_becomeInitial G h_this h_operation h_braid h_weights h_operation_products h_operation_quotients h_operation_products_cells h_operation_quotients_cells h_braid_crossings h_weights_values h_weights_values_cells f_operation_size_1 f_operation_badColumn_2 a_operation_products_cells_3 a_operation_quotients_cells_4 f_braid_strands_6 f_braid_count_7 a_braid_crossings f_weights_modulus a_weights_values_cells)[i]?) = (wd_X1_append G h_braid h_braid_crossings f_braid_strands_6 f_braid_count_7 a_braid_crossings).map some := rfl
  refine qn_callV (wd := (fun u : Int32 × (Nat → Int32) => wd_X6_becomeInitial G h_this h_operation h_braid h_weights h_operation_products h_operation_quotients h_operation_products_cells h_operation_quotients_cells h_braid_crossings h_weights_values h_weights_values_cells f_operation_size_1 f_operation_badColumn_2 a_operation_products_cells_3 a_operation_quotients_cells_4 f_braid_strands_6 (u.1) (u.2) f_weights_modulus a_weights_values_cells)) [6, 7] (va_runV (As := [.int 1]) (rest := []) ⟨hx, hb, hml, hown, hts⟩ (c_X1_append G _ h_braid h_braid_crossings f_braid_strands_6 f_braid_count_7 a_braid_crossings 1 hw) (cwV 1 hts gX6_becomeInitial_X1_append rfl rfl rfl (by decide +kernel) ⟨Nat.le_of_ble_eq_true rfl, Nat.le_of_ble_eq_true rfl⟩) (qn_preV hE hP hD [6, 7] hC9 (by decide +kernel) (ci := 1) rfl rfl) rfl rfl hl.1 rfl (lv_room (Nat.le_of_ble_eq_true rfl)) dX6_becomeInitial_24 ⟨Nat.le_of_ble_eq_true rfl, Nat.le_of_ble_eq_true rfl⟩) hP hD hS hA hC9 [none, none, none, none, none, none, some 0, some 1, none, none, none] (M := 11) rfl (by decide +kernel) (fun _ => rfl) (fun _ => rfl) (fun u_11 H locs hw hP hD hS => ?_)
  obtain ⟨f_braid_count_9, a_braid_crossings_10⟩ := u_11
  try dsimp only at hw
  have hP : va_P G.1 vwCl (wd_X6_becomeInitial G h_this h_operation h_braid h_weights h_operation_products h_operation_quotients h_operation_products_cells h_operation_quotients_cells h_braid_crossings h_weights_values h_weights_values_cells f_operation_size_1 f_operation_badColumn_2 a_operation_products_cells_3 a_operation_quotients_cells_4 f_braid_strands_6 f_braid_count_9 a_braid_crossings_10 f_weights_modulus a_weights_values_cells) H := hP
  have hD : va_D A (wd_X6_becomeInitial G h_this h_operation h_braid h_weights h_operation_products h_operation_quotients h_operation_products_cells h_operation_quotients_cells h_braid_crossings h_weights_values h_weights_values_cells f_operation_size_1 f_operation_badColumn_2 a_operation_products_cells_3 a_operation_quotients_cells_4 f_braid_strands_6 f_braid_count_9 a_braid_crossings_10 f_weights_modulus a_weights_values_cells) := hD
  refine lv_aload_n hx hb dX6_becomeInitial_27 rfl (lv_at hl 0 rfl) ?_
  refine va_get (D := G.1) (ci := 6) (v := .ref h_braid) (C := RX6) (T := TX6) (N := 3) hx hb hts in_X6_becomeInitial_X6 hown hE.1 hP 0 rfl rfl 1 (by decide) (hts (.fieldLink RX6 19 "QuandleColorings$State" "braid" "LQuandleColorings$Braid;") lk_X6_becomeInitial_19) (fun _ h9 => h9) rfl dX6_becomeInitial_28 ?_
  refine lv_iconst (v := 1) hx hb dX6_becomeInitial_31 (by decide) ?_
  have hC9 : ([6, 7]).map (fun i => (wd_X6_becomeInitial G h_this h_operation h_braid h_weights h_operation_products h_operation_quotients h_operation_products_cells h_operation_quotients_cells h_braid_crossings h_weights_values h_weights_values_cells f_operation_size_1 f_operation_badColumn_2 a_operation_products_cells_3 a_operation_quotients_cells_4 f_braid_strands_6 f_braid_count_9 a_braid_crossings_10 f_weights_modulus a_weights_values_cells)[i]?) = (wd_X1_append G h_braid h_braid_crossings f_braid_strands_6 f_braid_count_9 a_braid_crossings_10).map some := rfl
  refine qn_callV (wd := (fun u : Int32 × (Nat → Int32) => wd_X6_becomeInitial G h_this h_operation h_braid h_weights h_operation_products h_operation_quotients h_operation_products_cells h_operation_quotients_cells h_braid_crossings h_weights_values h_weights_values_cells f_operation_size_1 f_operation_badColumn_2 a_operation_products_cells_3 a_operation_quotients_cells_4 f_braid_strands_6 (u.1) (u.2) f_weights_modulus a_weights_values_cells)) [6, 7] (va_runV (As := [.int 1]) (rest := []) ⟨hx, hb, hml, hown, hts⟩ (c_X1_append G _ h_braid h_braid_crossings f_braid_strands_6 f_braid_count_9 a_braid_crossings_10 1 hw) (cwV 1 hts gX6_becomeInitial_X1_append rfl rfl rfl (by decide +kernel) ⟨Nat.le_of_ble_eq_true rfl, Nat.le_of_ble_eq_true rfl⟩) (qn_preV hE hP hD [6, 7] hC9 (by decide +kernel) (ci := 1) rfl rfl) rfl rfl hl.1 rfl (lv_room (Nat.le_of_ble_eq_true rfl)) dX6_becomeInitial_32 ⟨Nat.le_of_ble_eq_true rfl, Nat.le_of_ble_eq_true rfl⟩) hP hD hS hA hC9 [none, none, none, none, none, none, some 0, some 1, none, none, none] (M := 11) rfl (by decide +kernel) (fun _ => rfl) (fun _ => rfl) (fun u_14 H locs hw hP hD hS => ?_)
  obtain ⟨f_braid_count_12, a_braid_crossings_13⟩ := u_14
  try dsimp only at hw
  have hP : va_P G.1 vwCl (wd_X6_becomeInitial G h_this h_operation h_braid h_weights h_operation_products h_operation_quotients h_operation_products_cells h_operation_quotients_cells h_braid_crossings h_weights_values h_weights_values_cells f_operation_size_1 f_operation_badColumn_2 a_operation_products_cells_3 a_operation_quotients_cells_4 f_braid_strands_6 f_braid_count_12 a_braid_crossings_13 f_weights_modulus a_weights_values_cells) H := hP
  have hD : va_D A (wd_X6_becomeInitial G h_this h_operation h_braid h_weights h_operation_products h_operation_quotients h_operation_products_cells h_operation_quotients_cells h_braid_crossings h_weights_values h_weights_values_cells f_operation_size_1 f_operation_badColumn_2 a_operation_products_cells_3 a_operation_quotients_cells_4 f_braid_strands_6 f_braid_count_12 a_braid_crossings_13 f_weights_modulus a_weights_values_cells) := hD
  refine lv_aload_n hx hb dX6_becomeInitial_35 rfl (lv_at hl 0 rfl) ?_
  refine va_get (D := G.1) (ci := 6) (v := .ref h_braid) (C := RX6) (T := TX6) (N := 3) hx hb hts in_X6_becomeInitial_X6 hown hE.1 hP 0 rfl rfl 1 (by decide) (hts (.fieldLink RX6 19 "QuandleColorings$State" "braid" "LQuandleColorings$Braid;") lk_X6_becomeInitial_19) (fun _ h9 => h9) rfl dX6_becomeInitial_36 ?_
  refine lv_iconst (v := 1) hx hb dX6_becomeInitial_39 (by decide) ?_
  have hC9 : ([6, 7]).map (fun i => (wd_X6_becomeInitial G h_this h_operation h_braid h_weights h_operation_products h_operation_quotients h_operation_products_cells h_operation_quotients_cells h_braid_crossings h_weights_values h_weights_values_cells f_operation_size_1 f_operation_badColumn_2 a_operation_products_cells_3 a_operation_quotients_cells_4 f_braid_strands_6 f_braid_count_12 a_braid_crossings_13 f_weights_modulus a_weights_values_cells)[i]?) = (wd_X1_append G h_braid h_braid_crossings f_braid_strands_6 f_braid_count_12 a_braid_crossings_13).map some := rfl
  refine qn_callV (wd := (fun u : Int32 × (Nat → Int32) => wd_X6_becomeInitial G h_this h_operation h_braid h_weights h_operation_products h_operation_quotients h_operation_products_cells h_operation_quotients_cells h_braid_crossings h_weights_values h_weights_values_cells f_operation_size_1 f_operation_badColumn_2 a_operation_products_cells_3 a_operation_quotients_cells_4 f_braid_strands_6 (u.1) (u.2) f_weights_modulus a_weights_values_cells)) [6, 7] (va_runV (As := [.int 1]) (rest := []) ⟨hx, hb, hml, hown, hts⟩ (c_X1_append G _ h_braid h_braid_crossings f_braid_strands_6 f_braid_count_12 a_braid_crossings_13 1 hw) (cwV 1 hts gX6_becomeInitial_X1_append rfl rfl rfl (by decide +kernel) ⟨Nat.le_of_ble_eq_true rfl, Nat.le_of_ble_eq_true rfl⟩) (qn_preV hE hP hD [6, 7] hC9 (by decide +kernel) (ci := 1) rfl rfl) rfl rfl hl.1 rfl (lv_room (Nat.le_of_ble_eq_true rfl)) dX6_becomeInitial_40 ⟨Nat.le_of_ble_eq_true rfl, Nat.le_of_ble_eq_true rfl⟩) hP hD hS hA hC9 [none, none, none, none, none, none, some 0, some 1, none, none, none] (M := 11) rfl (by decide +kernel) (fun _ => rfl) (fun _ => rfl) (fun u_17 H locs hw hP hD hS => ?_)
  obtain ⟨f_braid_count_15, a_braid_crossings_16⟩ := u_17
  try dsimp only at hw
  have hP : va_P G.1 vwCl (wd_X6_becomeInitial G h_this h_operation h_braid h_weights h_operation_products h_operation_quotients h_operation_products_cells h_operation_quotients_cells h_braid_crossings h_weights_values h_weights_values_cells f_operation_size_1 f_operation_badColumn_2 a_operation_products_cells_3 a_operation_quotients_cells_4 f_braid_strands_6 f_braid_count_15 a_braid_crossings_16 f_weights_modulus a_weights_values_cells) H := hP
  have hD : va_D A (wd_X6_becomeInitial G h_this h_operation h_braid h_weights h_operation_products h_operation_quotients h_operation_products_cells h_operation_quotients_cells h_braid_crossings h_weights_values h_weights_values_cells f_operation_size_1 f_operation_badColumn_2 a_operation_products_cells_3 a_operation_quotients_cells_4 f_braid_strands_6 f_braid_count_15 a_braid_crossings_16 f_weights_modulus a_weights_values_cells) := hD
  refine lv_aload_n hx hb dX6_becomeInitial_43 rfl (lv_at hl 0 rfl) ?_
  refine va_get (D := G.1) (ci := 6) (v := .ref h_weights) (C := RX6) (T := TX6) (N := 3) hx hb hts in_X6_becomeInitial_X6 hown hE.1 hP 0 rfl rfl 2 (by decide) (hts (.fieldLink RX6 26 "QuandleColorings$State" "weights" "LQuandleColorings$Weights;") lk_X6_becomeInitial_26) (fun _ h9 => h9) rfl dX6_becomeInitial_44 ?_
  refine lv_iconst (v := 3) hx hb dX6_becomeInitial_47 (by decide) ?_
  have hC9 : ([8, 9, 10]).map (fun i => (wd_X6_becomeInitial G h_this h_operation h_braid h_weights h_operation_products h_operation_quotients h_operation_products_cells h_operation_quotients_cells h_braid_crossings h_weights_values h_weights_values_cells f_operation_size_1 f_operation_badColumn_2 a_operation_products_cells_3 a_operation_quotients_cells_4 f_braid_strands_6 f_braid_count_15 a_braid_crossings_16 f_weights_modulus a_weights_values_cells)[i]?) = (wd_X8_restart G h_weights h_weights_values h_weights_values_cells f_weights_modulus a_weights_values_cells).map some := rfl
  refine qn_callV (wd := (fun u : Int32 × (Nat → Int32) => wd_X6_becomeInitial G h_this h_operation h_braid h_weights h_operation_products h_operation_quotients h_operation_products_cells h_operation_quotients_cells h_braid_crossings h_weights_values h_weights_values_cells f_operation_size_1 f_operation_badColumn_2 a_operation_products_cells_3 a_operation_quotients_cells_4 f_braid_strands_6 f_braid_count_15 a_braid_crossings_16 (u.1) (u.2))) [8, 9, 10] (va_runV (As := [.int 3]) (rest := []) ⟨hx, hb, hml, hown, hts⟩ (c_X8_restart G _ h_weights h_weights_values h_weights_values_cells f_weights_modulus a_weights_values_cells 3 hw) (cwV 1 hts gX6_becomeInitial_X8_restart rfl rfl rfl (by decide +kernel) ⟨Nat.le_of_ble_eq_true rfl, Nat.le_of_ble_eq_true rfl⟩) (qn_preV hE hP hD [8, 9, 10] hC9 (by decide +kernel) (ci := 8) rfl rfl) rfl rfl hl.1 rfl (lv_room (Nat.le_of_ble_eq_true rfl)) dX6_becomeInitial_48 ⟨Nat.le_of_ble_eq_true rfl, Nat.le_of_ble_eq_true rfl⟩) hP hD hS hA hC9 [none, none, none, none, none, none, none, none, some 0, some 1, some 2] (M := 11) rfl (by decide +kernel) (fun _ => rfl) (fun _ => rfl) (fun u_20 H locs hw hP hD hS => ?_)
  obtain ⟨f_weights_modulus_18, a_weights_values_cells_19⟩ := u_20
  try dsimp only at hw
  have hP : va_P G.1 vwCl (wd_X6_becomeInitial G h_this h_operation h_braid h_weights h_operation_products h_operation_quotients h_operation_products_cells h_operation_quotients_cells h_braid_crossings h_weights_values h_weights_values_cells f_operation_size_1 f_operation_badColumn_2 a_operation_products_cells_3 a_operation_quotients_cells_4 f_braid_strands_6 f_braid_count_15 a_braid_crossings_16 f_weights_modulus_18 a_weights_values_cells_19) H := hP
  have hD : va_D A (wd_X6_becomeInitial G h_this h_operation h_braid h_weights h_operation_products h_operation_quotients h_operation_products_cells h_operation_quotients_cells h_braid_crossings h_weights_values h_weights_values_cells f_operation_size_1 f_operation_badColumn_2 a_operation_products_cells_3 a_operation_quotients_cells_4 f_braid_strands_6 f_braid_count_15 a_braid_crossings_16 f_weights_modulus_18 a_weights_values_cells_19) := hD
  exact W.vret hx hb hr (fun t ht hW => ⟨⟨(f_operation_size_1, f_operation_badColumn_2, a_operation_products_cells_3, a_operation_quotients_cells_4, f_braid_strands_6, f_braid_count_15, a_braid_crossings_16, f_weights_modulus_18, a_weights_values_cells_19), rfl, hw, by rw [ht]; exact hP, hD⟩, hS.F ht⟩) hS.2.2 dX6_becomeInitial_51
-- QuandleColorings$Tracer.startAtFirst(LQuandleColorings$State;)I
abbrev rm_X7_startAtFirst : Room := { frames := 0, cells := 0, slots := 0, locals := 0 }
abbrev wd_X7_startAtFirst (G : qn_G) (h_this h_top h_colors h_o1 h_o1_operation h_o1_braid h_o1_weights h_o1_operation_products h_o1_operation_quotients h_o1_braid_crossings : Nat) (f_total : Int32) (a_top : Nat → Int32) (f_o1_operation_size : Int32) (f_o1_operation_badColumn : Int32) (f_o1_braid_strands : Int32) (f_o1_braid_count : Int32) : va_W := [(h_this, .inr (7, [.ref h_top, .ref h_colors, .int f_total])), (h_top, .inl (G.2.1, 4, .inl a_top)), (h_o1, .inr (6, [.ref h_o1_operation, .ref h_o1_braid, .ref h_o1_weights])), (h_o1_operation, .inr (5, [.int f_o1_operation_size, .ref h_o1_operation_products, .ref h_o1_operation_quotients, .int f_o1_operation_badColumn])), (h_o1_braid, .inr (1, [.int f_o1_braid_strands, .int f_o1_braid_count, .ref h_o1_braid_crossings]))]
theorem in_X7_startAtFirst_X1 : ∀ w ∈ u_ws RX1 TX1 3, w ∈ wsX7_startAtFirst := by decide +kernel
theorem in_X7_startAtFirst_X5 : ∀ w ∈ u_ws RX5 TX5 4, w ∈ wsX7_startAtFirst := by decide +kernel
theorem in_X7_startAtFirst_X6 : ∀ w ∈ u_ws RX6 TX6 3, w ∈ wsX7_startAtFirst := by decide +kernel
theorem in_X7_startAtFirst_X7 : ∀ w ∈ u_ws RX7 TX7 3, w ∈ wsX7_startAtFirst := by decide +kernel
theorem lk_X7_startAtFirst_9 : Cond.fieldLink RX7 9 "QuandleColorings$Tracer" "top" "[I" ∈ wsX7_startAtFirst := by decide +kernel
def wp_X7_startAtFirst_L4 (KL4 : Int32 → (Nat → Int32) → Prop) (f_o1_operation_size : Int32) (f_o1_braid_strands : Int32) : Nat → Int32 → Int32 → (Nat → Int32) → Prop
  | 0 => fun _ _ _ => False
  | fu + 1 => fun x2 x3 a_top => ((4 ≤ x3 → (KL4 x2 a_top)) ∧ (¬ 4 ≤ x3 → (vp_in x3 4 ∧ (∀ a_top_2 : Nat → Int32, a_top_2 = upd a_top x3.toNatClampNeg 0 → ((f_o1_braid_strands ≤ x3 → (∀ x3_4 : Int32, x3_4 = x3 + 1 → ((wp_X7_startAtFirst_L4 KL4 f_o1_operation_size f_o1_braid_strands fu) x2 x3_4 a_top_2))) ∧ (¬ f_o1_braid_strands ≤ x3 → (∀ x2_5 : Int32, x2_5 = x2 * f_o1_operation_size → (∀ x3_6 : Int32, x3_6 = x3 + 1 → ((wp_X7_startAtFirst_L4 KL4 f_o1_operation_size f_o1_braid_strands fu) x2_5 x3_6 a_top_2)))))))))
def wp_X7_startAtFirst (post : Int32 → (Nat → Int32) → Prop) (a_top : Nat → Int32) (f_o1_operation_size : Int32) (f_o1_braid_strands : Int32) : Prop := (∃ fu_9 : Nat, wp_X7_startAtFirst_L4 (fun (x2_7 : Int32) (a_top_8 : Nat → Int32) => (post x2_7 a_top_8)) f_o1_operation_size f_o1_braid_strands fu_9 1 0 a_top)
set_option maxHeartbeats 4000000 in
set_option maxRecDepth 100000 in
theorem l_X7_startAtFirst_4 {p : Program} {l : Launch} {e : Env} {s : State} {m : MethodId} {args : Array Value} {below : List Frame} {meth : Method} {c : Code} {G : qn_G} {A : Nat → Prop} {h_this h_top h_colors h_o1 h_o1_operation h_o1_braid h_o1_weights h_o1_operation_products h_o1_operation_quotients h_o1_braid_crossings : Nat} {f_total : Int32} {f_o1_operation_size : Int32} {f_o1_operation_badColumn : Int32} {f_o1_braid_strands : Int32} {f_o1_braid_count : Int32} {post : Int32 → (Nat → Int32) → Prop} {KL4 : Int32 → (Nat → Int32) → Prop} (C0 : qn_C p m c cX7_startAtFirst 4 s args wsX7_startAtFirst RX7 meth (some .int)) (hE : qn_EV G s) (hA : ∀ q, s.heap.size ≤ q → A q) (hKc : ∀ (x2 : Int32) (a_top : Nat → Int32), KL4 x2 a_top → ∀ (H : Heap) (locs : List Loc) (ls : Array Slot), va_P G.1 vwCl (wd_X7_startAtFirst G h_this h_top h_colors h_o1 h_o1_operation h_o1_braid h_o1_weights h_o1_operation_products h_o1_operation_quotients h_o1_braid_crossings f_total a_top f_o1_operation_size f_o1_operation_badColumn f_o1_braid_strands f_o1_braid_count) H → va_D A (wd_X7_startAtFirst G h_this h_top h_colors h_o1 h_o1_operation h_o1_braid h_o1_weights h_o1_operation_products h_o1_operation_quotients h_o1_braid_crossings f_total a_top f_o1_operation_size f_o1_operation_badColumn f_o1_braid_strands f_o1_braid_count) → va_S A s.heap H locs → lv_has ls 4 [(2, .int x2)] → W p l e (headSpec wsX7_startAtFirst rm_X7_startAtFirst).room s m args below meth c H locs 0 0 (MQ below (qn_QI G (fun (r : Int32) (u : (Nat → Int32)) => post r u) (fun u : (Nat → Int32) => wd_X7_startAtFirst G h_this h_top h_colors h_o1 h_o1_operation h_o1_braid h_o1_weights h_o1_operation_products h_o1_operation_quotients h_o1_braid_crossings f_total u f_o1_operation_size f_o1_operation_badColumn f_o1_braid_strands f_o1_braid_count) A) args s 0 0 A) (F0 m 43 ls [])) :
    ∀ (fu : Nat) (x2 : Int32) (x3 : Int32) (a_top : Nat → Int32), wp_X7_startAtFirst_L4 KL4 f_o1_operation_size f_o1_braid_strands fu x2 x3 a_top → ∀ (H : Heap) (locs : List Loc) (ls : Array Slot), va_P G.1 vwCl (wd_X7_startAtFirst G h_this h_top h_colors h_o1 h_o1_operation h_o1_braid h_o1_weights h_o1_operation_products h_o1_operation_quotients h_o1_braid_crossings f_total a_top f_o1_operation_size f_o1_operation_badColumn f_o1_braid_strands f_o1_braid_count) H → va_D A (wd_X7_startAtFirst G h_this h_top h_colors h_o1 h_o1_operation h_o1_braid h_o1_weights h_o1_operation_products h_o1_operation_quotients h_o1_braid_crossings f_total a_top f_o1_operation_size f_o1_operation_badColumn f_o1_braid_strands f_o1_braid_count) → va_S A s.heap H locs → lv_has ls 4 [(0, .ref h_this), (1, .ref h_o1), (2, .int x2), (3, .int x3)] → W p l e (headSpec wsX7_startAtFirst rm_X7_startAtFirst).room s m args below meth c H locs 0 0 (MQ below (qn_QI G (fun (r : Int32) (u : (Nat → Int32)) => post r u) (fun u : (Nat → Int32) => wd_X7_startAtFirst G h_this h_top h_colors h_o1 h_o1_operation h_o1_braid h_o1_weights h_o1_operation_products h_o1_operation_quotients h_o1_braid_crossings f_total u f_o1_operation_size f_o1_operation_badColumn f_o1_braid_strands f_o1_braid_count) A) args s 0 0 A) (F0 m 4 ls []) := by
  obtain ⟨hx, hb, hml, hown, hts, hr, hlocks⟩ := id C0
  intro fu
  induction fu with
  | zero => intro x2 x3 a_top hw; exact hw.elim
  | succ fu ih =>
    intro x2 x3 a_top hw H locs ls hP hD hS hl
    refine lv_iload_n hx hb dX7_startAtFirst_4 rfl (lv_at hl 3 rfl) ?_
    refine lv_iconst (v := 4) hx hb dX7_startAtFirst_5 (by decide) ?_
    refine lv_icmp_ge (tgt := 43) hx hb dX7_startAtFirst_6 (by decide) (fun c_1 => ?_) (fun c_1 => ?_)
    · have hw := hw.1 c_1
      exact hKc x2 a_top hw _ _ _ hP hD hS (lv_sub hl [2] rfl)
    · have hw := hw.2 c_1
      refine lv_aload_n hx hb dX7_startAtFirst_9 rfl (lv_at hl 0 rfl) ?_
      refine va_get (D := G.1) (ci := 7) (v := .ref h_top) (C := RX7) (T := TX7) (N := 3) hx hb hts in_X7_startAtFirst_X7 hown hE.1 hP 0 rfl rfl 0 (by decide) (hts (.fieldLink RX7 9 "QuandleColorings$Tracer" "top" "[I") lk_X7_startAtFirst_9) (fun _ h9 => h9) rfl dX7_startAtFirst_10 ?_
      refine lv_iload_n hx hb dX7_startAtFirst_13 rfl (lv_at hl 3 rfl) ?_
      refine lv_iconst (v := 0) hx hb dX7_startAtFirst_14 (by decide) ?_
      have hin := hw.1
      have hw := hw.2
      obtain ⟨a_top_2, ea_top_2⟩ : ∃ y : Nat → Int32, y = upd a_top x3.toNatClampNeg 0 := ⟨_, rfl⟩
      have hw := hw a_top_2 ea_top_2
      refine va_iast hx hb hE.1 hP hD hS 1 0 rfl rfl hin dX7_startAtFirst_15 (fun H locs hP hD hS => ?_)
      rw [← ea_top_2] at hP hD
      have hP : va_P G.1 vwCl (wd_X7_startAtFirst G h_this h_top h_colors h_o1 h_o1_operation h_o1_braid h_o1_weights h_o1_operation_products h_o1_operation_quotients h_o1_braid_crossings f_total a_top_2 f_o1_operation_size f_o1_operation_badColumn f_o1_braid_strands f_o1_braid_count) H := hP
      have hD : va_D A (wd_X7_startAtFirst G h_this h_top h_colors h_o1 h_o1_operation h_o1_braid h_o1_weights h_o1_operation_products h_o1_operation_quotients h_o1_braid_crossings f_total a_top_2 f_o1_operation_size f_o1_operation_badColumn f_o1_braid_strands f_o1_braid_count) := hD
      refine lv_iload_n hx hb dX7_startAtFirst_16 rfl (lv_at hl 3 rfl) ?_
      refine lv_aload_n hx hb dX7_startAtFirst_17 rfl (lv_at hl 1 rfl) ?_
      refine va_getN (D := G.1) (ci := 6) (v := .ref h_o1_braid) (C := RX6) (T := TX6) (N := 3) hx hb hts in_X7_startAtFirst_X6 hown hE.1 hP 2 rfl rfl 1 (by decide) (va_Nw.use rfl (qn_f_Tracer_34 hE.2.1)) (fun _ h9 => h9) rfl dX7_startAtFirst_18 ?_
      refine va_getN (D := G.1) (ci := 1) (v := .int f_o1_braid_strands) (C := RX1) (T := TX1) (N := 3) hx hb hts in_X7_startAtFirst_X1 hown hE.1 hP 4 rfl rfl 0 (by decide) (va_Nw.use rfl (qn_f_Tracer_40 hE.2.1)) (fun _ h9 => h9) rfl dX7_startAtFirst_21 ?_
      refine lv_icmp_ge (tgt := 37) hx hb dX7_startAtFirst_24 (by decide) (fun c_3 => ?_) (fun c_3 => ?_)
      · have hw := hw.1 c_3
        obtain ⟨x3_4, ex3_4⟩ : ∃ y : Int32, y = x3 + 1 := ⟨_, rfl⟩
        have hw := hw x3_4 ex3_4
        refine lv_iinc (v := x3_4) (lv' := [(3, .int x3_4), (0, .ref h_this), (1, .ref h_o1), (2, .int x2)]) hx hb dX7_startAtFirst_37 hl (k := 3) rfl (by rw [ex3_4]; rfl) (by decide) rfl (fun ls hl => ?_)
        refine lv_goto (tgt := 4) hx hb dX7_startAtFirst_40 (by decide) ?_
        exact ih x2 x3_4 a_top_2 hw _ _ _ hP hD hS (lv_sub hl [1, 2, 3, 0] rfl)
      · have hw := hw.2 c_3
        refine lv_iload_n hx hb dX7_startAtFirst_27 rfl (lv_at hl 2 rfl) ?_
        refine lv_aload_n hx hb dX7_startAtFirst_28 rfl (lv_at hl 1 rfl) ?_
        refine va_getN (D := G.1) (ci := 6) (v := .ref h_o1_operation) (C := RX6) (T := TX6) (N := 3) hx hb hts in_X7_startAtFirst_X6 hown hE.1 hP 2 rfl rfl 0 (by decide) (va_Nw.use rfl (qn_f_Tracer_45 hE.2.1)) (fun _ h9 => h9) rfl dX7_startAtFirst_29 ?_
        refine va_getN (D := G.1) (ci := 5) (v := .int f_o1_operation_size) (C := RX5) (T := TX5) (N := 4) hx hb hts in_X7_startAtFirst_X5 hown hE.1 hP 3 rfl rfl 0 (by decide) (va_Nw.use rfl (qn_f_Tracer_49 hE.2.1)) (fun _ h9 => h9) rfl dX7_startAtFirst_32 ?_
        refine lv_imul hx hb dX7_startAtFirst_35 ?_
        refine lv_topi (fun x2_5 ex2_5 => ?_)
        have hw := hw x2_5 ex2_5
        refine lv_istore_n (lv' := [(2, .int x2_5), (0, .ref h_this), (1, .ref h_o1), (3, .int x3)]) hx hb dX7_startAtFirst_36 rfl hl (by decide) rfl (fun ls hl => ?_)
        obtain ⟨x3_6, ex3_6⟩ : ∃ y : Int32, y = x3 + 1 := ⟨_, rfl⟩
        have hw := hw x3_6 ex3_6
        refine lv_iinc (v := x3_6) (lv' := [(3, .int x3_6), (2, .int x2_5), (0, .ref h_this), (1, .ref h_o1)]) hx hb dX7_startAtFirst_37 hl (k := 3) rfl (by rw [ex3_6]; rfl) (by decide) rfl (fun ls hl => ?_)
        refine lv_goto (tgt := 4) hx hb dX7_startAtFirst_40 (by decide) ?_
        exact ih x2_5 x3_6 a_top_2 hw _ _ _ hP hD hS (lv_sub hl [2, 3, 1, 0] rfl)
set_option maxHeartbeats 4000000 in
set_option maxRecDepth 100000 in
theorem c_X7_startAtFirst {l : Launch} (G : qn_G) (sz : Nat) (h_this h_top h_colors h_o1 h_o1_operation h_o1_braid h_o1_weights h_o1_operation_products h_o1_operation_quotients h_o1_braid_crossings : Nat) (f_total : Int32) (a_top : Nat → Int32) (f_o1_operation_size : Int32) (f_o1_operation_badColumn : Int32) (f_o1_braid_strands : Int32) (f_o1_braid_count : Int32) {post : Int32 → (Nat → Int32) → Prop} (hw : wp_X7_startAtFirst post a_top f_o1_operation_size f_o1_braid_strands) : Met l yX7_startAtFirst wsX7_startAtFirst rm_X7_startAtFirst (qn_PC G [.ref h_this, .ref h_o1] sz (wd_X7_startAtFirst G h_this h_top h_colors h_o1 h_o1_operation h_o1_braid h_o1_weights h_o1_operation_products h_o1_operation_quotients h_o1_braid_crossings f_total a_top f_o1_operation_size f_o1_operation_badColumn f_o1_braid_strands f_o1_braid_count)) (qn_QI G (fun (r : Int32) (u : (Nat → Int32)) => post r u) (fun u : (Nat → Int32) => wd_X7_startAtFirst G h_this h_top h_colors h_o1 h_o1_operation h_o1_braid h_o1_weights h_o1_operation_products h_o1_operation_quotients h_o1_braid_crossings f_total u f_o1_operation_size f_o1_operation_badColumn f_o1_braid_strands f_o1_braid_count) (va_A (wd_X7_startAtFirst G h_this h_top h_colors h_o1 h_o1_operation h_o1_braid h_o1_weights h_o1_operation_products h_o1_operation_quotients h_o1_braid_crossings f_total a_top f_o1_operation_size f_o1_operation_badColumn f_o1_braid_strands f_o1_braid_count) sz)) 0 0 (va_A (wd_X7_startAtFirst G h_this h_top h_colors h_o1 h_o1_operation h_o1_braid h_o1_weights h_o1_operation_products h_o1_operation_quotients h_o1_braid_crossings f_total a_top f_o1_operation_size f_o1_operation_badColumn f_o1_braid_strands f_o1_braid_count) sz) := by
  refine Met.ofW (cc := cX7_startAtFirst) (maxL := 4) (ret := (some .int)) (by decide) rfl ?_
  intro p e s m args below meth c s₁ B hml hv
  obtain ⟨rfl, hsz, hP, hE, hD0⟩ := hv
  have C0 : qn_C p m c cX7_startAtFirst 4 s _ wsX7_startAtFirst RX7 meth (some .int) := qn_C0 B hml
  obtain ⟨hx, hb, -, hown, hts, hr, hlocks⟩ := id C0
  subst hsz
  have hD := hD0.self (sz := s.heap.size)
  generalize hAe : va_A (wd_X7_startAtFirst G h_this h_top h_colors h_o1 h_o1_operation h_o1_braid h_o1_weights h_o1_operation_products h_o1_operation_quotients h_o1_braid_crossings f_total a_top f_o1_operation_size f_o1_operation_badColumn f_o1_braid_strands f_o1_braid_count) s.heap.size = A at hD ⊢
  have hA : ∀ q : Nat, s.heap.size ≤ q → A q := fun q h => by rw [← hAe]; exact Or.inr h
  clear hAe
  have hS : va_S A s.heap s.heap [] := va_S.rf
  have hl := lv_entry ([.ref h_this, .ref h_o1]) (n := 4) (Nat.le_of_ble_eq_true rfl)
  rw [lg_entry_eq]
  generalize (lg_sl ([.ref h_this, .ref h_o1]) ++ List.replicate (4 - (lg_sl ([.ref h_this, .ref h_o1])).length) Slot.unset).toArray = ls at hl ⊢
  have hl : lv_has ls 4 [(0, .ref h_this), (1, .ref h_o1)] := hl
  have hP : va_P G.1 vwCl (wd_X7_startAtFirst G h_this h_top h_colors h_o1 h_o1_operation h_o1_braid h_o1_weights h_o1_operation_products h_o1_operation_quotients h_o1_braid_crossings f_total a_top f_o1_operation_size f_o1_operation_badColumn f_o1_braid_strands f_o1_braid_count) s.heap := hP
  refine lv_iconst (v := 1) hx hb dX7_startAtFirst_0 (by decide) ?_
  refine lv_istore_n (lv' := [(2, .int 1), (0, .ref h_this), (1, .ref h_o1)]) hx hb dX7_startAtFirst_1 rfl hl (by decide) rfl (fun ls hl => ?_)
  refine lv_iconst (v := 0) hx hb dX7_startAtFirst_2 (by decide) ?_
  refine lv_istore_n (lv' := [(3, .int 0), (2, .int 1), (0, .ref h_this), (1, .ref h_o1)]) hx hb dX7_startAtFirst_3 rfl hl (by decide) rfl (fun ls hl => ?_)
  obtain ⟨fu_9, hw⟩ := hw
  refine l_X7_startAtFirst_4 (post := post) C0 hE hA (fun x2_7 a_top_8 hw H locs ls hP hD hS hl => ?_) fu_9 1 0 a_top hw _ _ _ hP hD hS (lv_sub hl [2, 3, 1, 0] rfl)
  refine lv_iload_n hx hb dX7_startAtFirst_43 rfl (lv_at hl 0 rfl) ?_
  exact W.iret (v := x2_7) hx hb hr (fun t ht hW => ⟨⟨x2_7, a_top_8, rfl, hw, by rw [ht]; exact hP, hD⟩, hS.F ht⟩) hS.2.2 dX7_startAtFirst_44
-- QuandleColorings$Weights.plus(II)I
abbrev rm_X8_plus : Room := { frames := 0, cells := 0, slots := 0, locals := 0 }
abbrev wd_X8_plus (G : qn_G) (h_this h_values : Nat) (f_modulus : Int32) : va_W := [(h_this, .inr (8, [.int f_modulus, .ref h_values]))]
theorem in_X8_plus_X8 : ∀ w ∈ u_ws RX8 TX8 2, w ∈ wsX8_plus := by decide +kernel
theorem lk_X8_plus_9 : Cond.fieldLink RX8 9 "QuandleColorings$Weights" "modulus" "I" ∈ wsX8_plus := by decide +kernel
def wp_X8_plus (post : Int32 → Prop) (f_modulus : Int32) (x1 : Int32) (x2 : Int32) : Prop := (((x1 + x2) < f_modulus → (post (x1 + x2))) ∧ (¬ (x1 + x2) < f_modulus → (post ((x1 + x2) - f_modulus))))
set_option maxHeartbeats 4000000 in
set_option maxRecDepth 100000 in
theorem c_X8_plus {l : Launch} (G : qn_G) (sz : Nat) (h_this h_values : Nat) (f_modulus : Int32) (x1 : Int32) (x2 : Int32) {post : Int32 → Prop} (hw : wp_X8_plus post f_modulus x1 x2) : Met l yX8_plus wsX8_plus rm_X8_plus (qn_PC G [.ref h_this, .int x1, .int x2] sz (wd_X8_plus G h_this h_values f_modulus)) (qn_QI G (fun (r : Int32) (u : Unit) => post r) (fun u : Unit => wd_X8_plus G h_this h_values f_modulus) (va_A (wd_X8_plus G h_this h_values f_modulus) sz)) 0 0 (va_A (wd_X8_plus G h_this h_values f_modulus) sz) := by
  refine Met.ofW (cc := cX8_plus) (maxL := 3) (ret := (some .int)) (by decide) rfl ?_
  intro p e s m args below meth c s₁ B hml hv
  obtain ⟨rfl, hsz, hP, hE, hD0⟩ := hv
  have C0 : qn_C p m c cX8_plus 3 s _ wsX8_plus RX8 meth (some .int) := qn_C0 B hml
  obtain ⟨hx, hb, -, hown, hts, hr, hlocks⟩ := id C0
  subst hsz
  have hD := hD0.self (sz := s.heap.size)
  generalize hAe : va_A (wd_X8_plus G h_this h_values f_modulus) s.heap.size = A at hD ⊢
  have hA : ∀ q : Nat, s.heap.size ≤ q → A q := fun q h => by rw [← hAe]; exact Or.inr h
  clear hAe
  have hS : va_S A s.heap s.heap [] := va_S.rf
  have hl := lv_entry ([.ref h_this, .int x1, .int x2]) (n := 3) (Nat.le_of_ble_eq_true rfl)
  rw [lg_entry_eq]
  generalize (lg_sl ([.ref h_this, .int x1, .int x2]) ++ List.replicate (3 - (lg_sl ([.ref h_this, .int x1, .int x2])).length) Slot.unset).toArray = ls at hl ⊢
  have hl : lv_has ls 3 [(0, .ref h_this), (1, .int x1), (2, .int x2)] := hl
  have hP : va_P G.1 vwCl (wd_X8_plus G h_this h_values f_modulus) s.heap := hP
  refine lv_iload_n hx hb dX8_plus_0 rfl (lv_at hl 1 rfl) ?_
  refine lv_iload_n hx hb dX8_plus_1 rfl (lv_at hl 2 rfl) ?_
  refine lv_iadd hx hb dX8_plus_2 ?_
  refine lv_aload_n hx hb dX8_plus_3 rfl (lv_at hl 0 rfl) ?_
  refine va_get (D := G.1) (ci := 8) (v := .int f_modulus) (C := RX8) (T := TX8) (N := 2) hx hb hts in_X8_plus_X8 hown hE.1 hP 0 rfl rfl 0 (by decide) (hts (.fieldLink RX8 9 "QuandleColorings$Weights" "modulus" "I") lk_X8_plus_9) (fun _ h9 => h9) rfl dX8_plus_4 ?_
  refine lv_icmp_lt (tgt := 21) hx hb dX8_plus_7 (by decide) (fun c_1 => ?_) (fun c_1 => ?_)
  · have hw := hw.1 c_1
    refine lv_iload_n hx hb dX8_plus_21 rfl (lv_at hl 1 rfl) ?_
    refine lv_iload_n hx hb dX8_plus_22 rfl (lv_at hl 2 rfl) ?_
    refine lv_iadd hx hb dX8_plus_23 ?_
    exact W.iret (v := (x1 + x2)) hx hb hr (fun t ht hW => ⟨⟨(x1 + x2), (), rfl, hw, by rw [ht]; exact hP, hD⟩, hS.F ht⟩) hS.2.2 dX8_plus_24
  · have hw := hw.2 c_1
    refine lv_iload_n hx hb dX8_plus_10 rfl (lv_at hl 1 rfl) ?_
    refine lv_iload_n hx hb dX8_plus_11 rfl (lv_at hl 2 rfl) ?_
    refine lv_iadd hx hb dX8_plus_12 ?_
    refine lv_aload_n hx hb dX8_plus_13 rfl (lv_at hl 0 rfl) ?_
    refine va_get (D := G.1) (ci := 8) (v := .int f_modulus) (C := RX8) (T := TX8) (N := 2) hx hb hts in_X8_plus_X8 hown hE.1 hP 0 rfl rfl 0 (by decide) (hts (.fieldLink RX8 9 "QuandleColorings$Weights" "modulus" "I") lk_X8_plus_9) (fun _ h9 => h9) rfl dX8_plus_14 ?_
    refine lv_isub hx hb dX8_plus_17 ?_
    refine lv_goto (tgt := 24) hx hb dX8_plus_18 (by decide) ?_
    exact W.iret (v := ((x1 + x2) - f_modulus)) hx hb hr (fun t ht hW => ⟨⟨((x1 + x2) - f_modulus), (), rfl, hw, by rw [ht]; exact hP, hD⟩, hS.F ht⟩) hS.2.2 dX8_plus_24
-- QuandleColorings$Weights.minus(II)I
abbrev rm_X8_minus : Room := { frames := 0, cells := 0, slots := 0, locals := 0 }
abbrev wd_X8_minus (G : qn_G) (h_this h_values : Nat) (f_modulus : Int32) : va_W := [(h_this, .inr (8, [.int f_modulus, .ref h_values]))]
theorem in_X8_minus_X8 : ∀ w ∈ u_ws RX8 TX8 2, w ∈ wsX8_minus := by decide +kernel
theorem lk_X8_minus_9 : Cond.fieldLink RX8 9 "QuandleColorings$Weights" "modulus" "I" ∈ wsX8_minus := by decide +kernel
def wp_X8_minus (post : Int32 → Prop) (f_modulus : Int32) (x1 : Int32) (x2 : Int32) : Prop := ((x2 ≤ x1 → (post (x1 - x2))) ∧ (¬ x2 ≤ x1 → (post ((x1 - x2) + f_modulus))))
set_option maxHeartbeats 4000000 in
set_option maxRecDepth 100000 in
theorem c_X8_minus {l : Launch} (G : qn_G) (sz : Nat) (h_this h_values : Nat) (f_modulus : Int32) (x1 : Int32) (x2 : Int32) {post : Int32 → Prop} (hw : wp_X8_minus post f_modulus x1 x2) : Met l yX8_minus wsX8_minus rm_X8_minus (qn_PC G [.ref h_this, .int x1, .int x2] sz (wd_X8_minus G h_this h_values f_modulus)) (qn_QI G (fun (r : Int32) (u : Unit) => post r) (fun u : Unit => wd_X8_minus G h_this h_values f_modulus) (va_A (wd_X8_minus G h_this h_values f_modulus) sz)) 0 0 (va_A (wd_X8_minus G h_this h_values f_modulus) sz) := by
  refine Met.ofW (cc := cX8_minus) (maxL := 3) (ret := (some .int)) (by decide) rfl ?_
  intro p e s m args below meth c s₁ B hml hv
  obtain ⟨rfl, hsz, hP, hE, hD0⟩ := hv
  have C0 : qn_C p m c cX8_minus 3 s _ wsX8_minus RX8 meth (some .int) := qn_C0 B hml
  obtain ⟨hx, hb, -, hown, hts, hr, hlocks⟩ := id C0
  subst hsz
  have hD := hD0.self (sz := s.heap.size)
  generalize hAe : va_A (wd_X8_minus G h_this h_values f_modulus) s.heap.size = A at hD ⊢
  have hA : ∀ q : Nat, s.heap.size ≤ q → A q := fun q h => by rw [← hAe]; exact Or.inr h
  clear hAe
  have hS : va_S A s.heap s.heap [] := va_S.rf
  have hl := lv_entry ([.ref h_this, .int x1, .int x2]) (n := 3) (Nat.le_of_ble_eq_true rfl)
  rw [lg_entry_eq]
  generalize (lg_sl ([.ref h_this, .int x1, .int x2]) ++ List.replicate (3 - (lg_sl ([.ref h_this, .int x1, .int x2])).length) Slot.unset).toArray = ls at hl ⊢
  have hl : lv_has ls 3 [(0, .ref h_this), (1, .int x1), (2, .int x2)] := hl
  have hP : va_P G.1 vwCl (wd_X8_minus G h_this h_values f_modulus) s.heap := hP
  refine lv_iload_n hx hb dX8_minus_0 rfl (lv_at hl 1 rfl) ?_
  refine lv_iload_n hx hb dX8_minus_1 rfl (lv_at hl 2 rfl) ?_
  refine lv_icmp_ge (tgt := 16) hx hb dX8_minus_2 (by decide) (fun c_1 => ?_) (fun c_1 => ?_)
  · have hw := hw.1 c_1
    refine lv_iload_n hx hb dX8_minus_16 rfl (lv_at hl 1 rfl) ?_
    refine lv_iload_n hx hb dX8_minus_17 rfl (lv_at hl 2 rfl) ?_
    refine lv_isub hx hb dX8_minus_18 ?_
    exact W.iret (v := (x1 - x2)) hx hb hr (fun t ht hW => ⟨⟨(x1 - x2), (), rfl, hw, by rw [ht]; exact hP, hD⟩, hS.F ht⟩) hS.2.2 dX8_minus_19
  · have hw := hw.2 c_1
    refine lv_iload_n hx hb dX8_minus_5 rfl (lv_at hl 1 rfl) ?_
    refine lv_iload_n hx hb dX8_minus_6 rfl (lv_at hl 2 rfl) ?_
    refine lv_isub hx hb dX8_minus_7 ?_
    refine lv_aload_n hx hb dX8_minus_8 rfl (lv_at hl 0 rfl) ?_
    refine va_get (D := G.1) (ci := 8) (v := .int f_modulus) (C := RX8) (T := TX8) (N := 2) hx hb hts in_X8_minus_X8 hown hE.1 hP 0 rfl rfl 0 (by decide) (hts (.fieldLink RX8 9 "QuandleColorings$Weights" "modulus" "I") lk_X8_minus_9) (fun _ h9 => h9) rfl dX8_minus_9 ?_
    refine lv_iadd hx hb dX8_minus_12 ?_
    refine lv_goto (tgt := 19) hx hb dX8_minus_13 (by decide) ?_
    exact W.iret (v := ((x1 - x2) + f_modulus)) hx hb hr (fun t ht hW => ⟨⟨((x1 - x2) + f_modulus), (), rfl, hw, by rw [ht]; exact hP, hD⟩, hS.F ht⟩) hS.2.2 dX8_minus_19
-- QuandleColorings$Tracer.pass(LQuandleColorings$State;I)V
abbrev rm_X7_pass : Room := { frames := 3, cells := 0, slots := 0, locals := 65 }
abbrev wd_X7_pass (G : qn_G) (h_this h_top h_colors h_o1 h_o1_operation h_o1_braid h_o1_weights h_o1_operation_products h_o1_operation_quotients h_o1_operation_products_cells h_o1_operation_quotients_cells h_o1_weights_values h_o1_weights_values_cells : Nat) (f_total : Int32) (a_colors : Nat → Int32) (f_o1_operation_size : Int32) (f_o1_operation_badColumn : Int32) (a_o1_operation_products_cells : Nat → Int32) (a_o1_operation_quotients_cells : Nat → Int32) (f_o1_weights_modulus : Int32) (a_o1_weights_values_cells : Nat → Int32) : va_W := [(h_this, .inr (7, [.ref h_top, .ref h_colors, .int f_total])), (h_colors, .inl (G.2.1, 4, .inl a_colors)), (h_o1, .inr (6, [.ref h_o1_operation, .ref h_o1_braid, .ref h_o1_weights])), (h_o1_operation, .inr (5, [.int f_o1_operation_size, .ref h_o1_operation_products, .ref h_o1_operation_quotients, .int f_o1_operation_badColumn])), (h_o1_operation_products, .inr (2, [.ref h_o1_operation_products_cells])), (h_o1_operation_products_cells, .inl (G.2.1, 36, .inl a_o1_operation_products_cells)), (h_o1_operation_quotients, .inr (2, [.ref h_o1_operation_quotients_cells])), (h_o1_operation_quotients_cells, .inl (G.2.1, 36, .inl a_o1_operation_quotients_cells)), (h_o1_weights, .inr (8, [.int f_o1_weights_modulus, .ref h_o1_weights_values])), (h_o1_weights_values, .inr (2, [.ref h_o1_weights_values_cells])), (h_o1_weights_values_cells, .inl (G.2.1, 36, .inl a_o1_weights_values_cells))]
theorem in_X7_pass_X6 : ∀ w ∈ u_ws RX6 TX6 3, w ∈ wsX7_pass := by decide +kernel
theorem in_X7_pass_X7 : ∀ w ∈ u_ws RX7 TX7 3, w ∈ wsX7_pass := by decide +kernel
theorem in_X7_pass_X8 : ∀ w ∈ u_ws RX8 TX8 2, w ∈ wsX7_pass := by decide +kernel
theorem lk_X7_pass_15 : Cond.fieldLink RX7 15 "QuandleColorings$Tracer" "colors" "[I" ∈ wsX7_pass := by decide +kernel
theorem lk_X7_pass_18 : Cond.fieldLink RX7 18 "QuandleColorings$Tracer" "total" "I" ∈ wsX7_pass := by decide +kernel
def wp_X7_pass (post : Int32 → (Nat → Int32) → Prop) (f_total : Int32) (a_colors : Nat → Int32) (a_o1_operation_products_cells : Nat → Int32) (a_o1_operation_quotients_cells : Nat → Int32) (f_o1_weights_modulus : Int32) (a_o1_weights_values_cells : Nat → Int32) (x2 : Int32) : Prop := (∀ z_1 : Int32, z_1 = (if 0 ≤ x2 then x2 else 0 - x2) → ((z_1 < 1 → (post f_total a_colors)) ∧ (¬ z_1 < 1 → ((z_1 < 4 → (vp_in (z_1 - 1) 4 ∧ (∀ x4_4 : Int32, x4_4 = a_colors (z_1 - 1).toNatClampNeg → (vp_in z_1 4 ∧ (∀ x5_5 : Int32, x5_5 = a_colors z_1.toNatClampNeg → ((x2 ≤ 0 → (wp_X5_divide (fun (r_7 : Int32) => (wp_X2_get (fun (r_8 : Int32) => (wp_X8_minus (fun (r_9 : Int32) => (vp_in (z_1 - 1) 4 ∧ (∀ a_colors_10 : Nat → Int32, a_colors_10 = upd a_colors (z_1 - 1).toNatClampNeg r_7 → (vp_in z_1 4 ∧ (∀ a_colors_11 : Nat → Int32, a_colors_11 = upd a_colors_10 z_1.toNatClampNeg x4_4 → (post r_9 a_colors_11)))))) f_o1_weights_modulus f_total r_8)) a_o1_weights_values_cells r_7 x4_4)) a_o1_operation_quotients_cells x5_5 x4_4)) ∧ (¬ x2 ≤ 0 → (wp_X2_get (fun (r_12 : Int32) => (wp_X8_plus (fun (r_13 : Int32) => (vp_in (z_1 - 1) 4 ∧ (∀ a_colors_14 : Nat → Int32, a_colors_14 = upd a_colors (z_1 - 1).toNatClampNeg x5_5 → (wp_X5_product (fun (r_15 : Int32) => (vp_in z_1 4 ∧ (∀ a_colors_16 : Nat → Int32, a_colors_16 = upd a_colors_14 z_1.toNatClampNeg r_15 → (post r_13 a_colors_16)))) a_o1_operation_products_cells x4_4 x5_5)))) f_o1_weights_modulus f_total r_12)) a_o1_weights_values_cells x4_4 x5_5)))))))) ∧ (¬ z_1 < 4 → (post f_total a_colors))))))
set_option maxHeartbeats 4000000 in
set_option maxRecDepth 100000 in
theorem c_X7_pass {l : Launch} (G : qn_G) (sz : Nat) (h_this h_top h_colors h_o1 h_o1_operation h_o1_braid h_o1_weights h_o1_operation_products h_o1_operation_quotients h_o1_operation_products_cells h_o1_operation_quotients_cells h_o1_weights_values h_o1_weights_values_cells : Nat) (f_total : Int32) (a_colors : Nat → Int32) (f_o1_operation_size : Int32) (f_o1_operation_badColumn : Int32) (a_o1_operation_products_cells : Nat → Int32) (a_o1_operation_quotients_cells : Nat → Int32) (f_o1_weights_modulus : Int32) (a_o1_weights_values_cells : Nat → Int32) (x2 : Int32) {post : Int32 → (Nat → Int32) → Prop} (hw : wp_X7_pass post f_total a_colors a_o1_operation_products_cells a_o1_operation_quotients_cells f_o1_weights_modulus a_o1_weights_values_cells x2) : Met l yX7_pass wsX7_pass rm_X7_pass (qn_PC G [.ref h_this, .ref h_o1, .int x2] sz (wd_X7_pass G h_this h_top h_colors h_o1 h_o1_operation h_o1_braid h_o1_weights h_o1_operation_products h_o1_operation_quotients h_o1_operation_products_cells h_o1_operation_quotients_cells h_o1_weights_values h_o1_weights_values_cells f_total a_colors f_o1_operation_size f_o1_operation_badColumn a_o1_operation_products_cells a_o1_operation_quotients_cells f_o1_weights_modulus a_o1_weights_values_cells)) (qn_QV G (fun (u : Int32 × (Nat → Int32)) => post u.1 u.2) (fun u : Int32 × (Nat → Int32) => wd_X7_pass G h_this h_top h_colors h_o1 h_o1_operation h_o1_braid h_o1_weights h_o1_operation_products h_o1_operation_quotients h_o1_operation_products_cells h_o1_operation_quotients_cells h_o1_weights_values h_o1_weights_values_cells (u.1) (u.2) f_o1_operation_size f_o1_operation_badColumn a_o1_operation_products_cells a_o1_operation_quotients_cells f_o1_weights_modulus a_o1_weights_values_cells) (va_A (wd_X7_pass G h_this h_top h_colors h_o1 h_o1_operation h_o1_braid h_o1_weights h_o1_operation_products h_o1_operation_quotients h_o1_operation_products_cells h_o1_operation_quotients_cells h_o1_weights_values h_o1_weights_values_cells f_total a_colors f_o1_operation_size f_o1_operation_badColumn a_o1_operation_products_cells a_o1_operation_quotients_cells f_o1_weights_modulus a_o1_weights_values_cells) sz)) 0 0 (va_A (wd_X7_pass G h_this h_top h_colors h_o1 h_o1_operation h_o1_braid h_o1_weights h_o1_operation_products h_o1_operation_quotients h_o1_operation_products_cells h_o1_operation_quotients_cells h_o1_weights_values h_o1_weights_values_cells f_total a_colors f_o1_operation_size f_o1_operation_badColumn a_o1_operation_products_cells a_o1_operation_quotients_cells f_o1_weights_modulus a_o1_weights_values_cells) sz) := by
  refine Met.ofW (cc := cX7_pass) (maxL := 7) (ret := none) (by decide) rfl ?_
  intro p e s m args below meth c s₁ B hml hv
  obtain ⟨rfl, hsz, hP, hE, hD0⟩ := hv
  have C0 : qn_C p m c cX7_pass 7 s _ wsX7_pass RX7 meth none := qn_C0 B hml
  obtain ⟨hx, hb, -, hown, hts, hr, hlocks⟩ := id C0
  subst hsz
  have hD := hD0.self (sz := s.heap.size)
  generalize hAe : va_A (wd_X7_pass G h_this h_top h_colors h_o1 h_o1_operation h_o1_braid h_o1_weights h_o1_operation_products h_o1_operation_quotients h_o1_operation_products_cells h_o1_operation_quotients_cells h_o1_weights_values h_o1_weights_values_cells f_total a_colors f_o1_operation_size f_o1_operation_badColumn a_o1_operation_products_cells a_o1_operation_quotients_cells f_o1_weights_modulus a_o1_weights_values_cells) s.heap.size = A at hD ⊢
  have hA : ∀ q : Nat, s.heap.size ≤ q → A q := fun q h => by rw [← hAe]; exact Or.inr h
  clear hAe
  have hS : va_S A s.heap s.heap [] := va_S.rf
  have hl := lv_entry ([.ref h_this, .ref h_o1, .int x2]) (n := 7) (Nat.le_of_ble_eq_true rfl)
  rw [lg_entry_eq]
  generalize (lg_sl ([.ref h_this, .ref h_o1, .int x2]) ++ List.replicate (7 - (lg_sl ([.ref h_this, .ref h_o1, .int x2])).length) Slot.unset).toArray = ls at hl ⊢
  have hl : lv_has ls 7 [(0, .ref h_this), (1, .ref h_o1), (2, .int x2)] := hl
  have hP : va_P G.1 vwCl (wd_X7_pass G h_this h_top h_colors h_o1 h_o1_operation h_o1_braid h_o1_weights h_o1_operation_products h_o1_operation_quotients h_o1_operation_products_cells h_o1_operation_quotients_cells h_o1_weights_values h_o1_weights_values_cells f_total a_colors f_o1_operation_size f_o1_operation_badColumn a_o1_operation_products_cells a_o1_operation_quotients_cells f_o1_weights_modulus a_o1_weights_values_cells) s.heap := hP
  refine lv_iload_n hx hb dX7_pass_0 rfl (lv_at hl 2 rfl) ?_
  refine va_mabs hx hb (by rw [hml]; exact hl.1.symm) hown (hts (.methodLink RX7 71 Lib.Math.abs.name) (by decide +kernel)) (hts (.static Lib.Math.abs.name) (by decide +kernel)) (hts (.initialized "java/lang/Math") (by decide +kernel)) (hts (.code Lib.Math.abs.name Lib.Math.abs.code 1 (some .int)) (List.mem_of_getElem? (i := 4) rfl)) (Nat.le_of_ble_eq_true rfl) (Nat.le_of_ble_eq_true rfl) (Nat.zero_le _) (Nat.zero_le _) dX7_pass_1 ?_
  refine lv_topi (fun z_1 ez_1 => ?_)
  have hw := hw z_1 ez_1
  refine lv_istore_n (lv' := [(3, .int z_1), (0, .ref h_this), (1, .ref h_o1), (2, .int x2)]) hx hb dX7_pass_4 rfl hl (by decide) rfl (fun ls hl => ?_)
  refine lv_iload_n hx hb dX7_pass_5 rfl (lv_at hl 0 rfl) ?_
  refine lv_iconst (v := 1) hx hb dX7_pass_6 (by decide) ?_
  refine lv_icmp_lt (tgt := 15) hx hb dX7_pass_7 (by decide) (fun c_2 => ?_) (fun c_2 => ?_)
  · have hw := hw.1 c_2
    exact W.vret hx hb hr (fun t ht hW => ⟨⟨(f_total, a_colors), rfl, hw, by rw [ht]; exact hP, hD⟩, hS.F ht⟩) hS.2.2 dX7_pass_15
  · have hw := hw.2 c_2
    refine lv_iload_n hx hb dX7_pass_10 rfl (lv_at hl 0 rfl) ?_
    refine lv_iconst (v := 4) hx hb dX7_pass_11 (by decide) ?_
    refine lv_icmp_lt (tgt := 16) hx hb dX7_pass_12 (by decide) (fun c_3 => ?_) (fun c_3 => ?_)
    · have hw := hw.1 c_3
      refine lv_aload_n hx hb dX7_pass_16 rfl (lv_at hl 1 rfl) ?_
      refine va_get (D := G.1) (ci := 7) (v := .ref h_colors) (C := RX7) (T := TX7) (N := 3) hx hb hts in_X7_pass_X7 hown hE.1 hP 0 rfl rfl 1 (by decide) (hts (.fieldLink RX7 15 "QuandleColorings$Tracer" "colors" "[I") lk_X7_pass_15) (fun _ h9 => h9) rfl dX7_pass_17 ?_
      refine lv_iload_n hx hb dX7_pass_20 rfl (lv_at hl 0 rfl) ?_
      refine lv_iconst (v := 1) hx hb dX7_pass_21 (by decide) ?_
      refine lv_isub hx hb dX7_pass_22 ?_
      have hin := hw.1
      have hw := hw.2
      refine va_iald hx hb hE.1 hP 1 0 rfl rfl hin dX7_pass_23 ?_
      refine lv_topi (fun x4_4 ex4_4 => ?_)
      have hw := hw x4_4 ex4_4
      refine lv_istore (lv' := [(4, .int x4_4), (3, .int z_1), (0, .ref h_this), (1, .ref h_o1), (2, .int x2)]) hx hb dX7_pass_24 hl (by decide) rfl (fun ls hl => ?_)
      refine lv_aload_n hx hb dX7_pass_26 rfl (lv_at hl 2 rfl) ?_
      refine va_get (D := G.1) (ci := 7) (v := .ref h_colors) (C := RX7) (T := TX7) (N := 3) hx hb hts in_X7_pass_X7 hown hE.1 hP 0 rfl rfl 1 (by decide) (hts (.fieldLink RX7 15 "QuandleColorings$Tracer" "colors" "[I") lk_X7_pass_15) (fun _ h9 => h9) rfl dX7_pass_27 ?_
      refine lv_iload_n hx hb dX7_pass_30 rfl (lv_at hl 1 rfl) ?_
      have hin := hw.1
      have hw := hw.2
      refine va_iald hx hb hE.1 hP 1 0 rfl rfl hin dX7_pass_31 ?_
      refine lv_topi (fun x5_5 ex5_5 => ?_)
      have hw := hw x5_5 ex5_5
      refine lv_istore (lv' := [(5, .int x5_5), (4, .int x4_4), (3, .int z_1), (0, .ref h_this), (1, .ref h_o1), (2, .int x2)]) hx hb dX7_pass_32 hl (by decide) rfl (fun ls hl => ?_)
      refine lv_iload_n hx hb dX7_pass_34 rfl (lv_at hl 5 rfl) ?_
      refine lv_if_le (tgt := 97) hx hb dX7_pass_35 (by decide) (fun c_6 => ?_) (fun c_6 => ?_)
      · have hw := hw.1 c_6
        refine lv_aload_n hx hb dX7_pass_97 rfl (lv_at hl 4 rfl) ?_
        refine va_getN (D := G.1) (ci := 6) (v := .ref h_o1_operation) (C := RX6) (T := TX6) (N := 3) hx hb hts in_X7_pass_X6 hown hE.1 hP 2 rfl rfl 0 (by decide) (va_Nw.use rfl (qn_f_Tracer_45 hE.2.1)) (fun _ h9 => h9) rfl dX7_pass_98 ?_
        refine lv_iload hx hb dX7_pass_101 (lv_at hl 0 rfl) ?_
        refine lv_iload hx hb dX7_pass_103 (lv_at hl 1 rfl) ?_
        have hC9 : ([3, 6, 7]).map (fun i => (wd_X7_pass G h_this h_top h_colors h_o1 h_o1_operation h_o1_braid h_o1_weights h_o1_operation_products h_o1_operation_quotients h_o1_operation_products_cells h_o1_operation_quotients_cells h_o1_weights_values h_o1_weights_values_cells f_total a_colors f_o1_operation_size f_o1_operation_badColumn a_o1_operation_products_cells a_o1_operation_quotients_cells f_o1_weights_modulus a_o1_weights_values_cells)[i]?) = (wd_X5_divide G h_o1_operation h_o1_operation_products h_o1_operation_quotients h_o1_operation_quotients_cells f_o1_operation_size f_o1_operation_badColumn a_o1_operation_quotients_cells).map some := rfl
        refine qn_callI (wd := (fun u : Unit => wd_X7_pass G h_this h_top h_colors h_o1 h_o1_operation h_o1_braid h_o1_weights h_o1_operation_products h_o1_operation_quotients h_o1_operation_products_cells h_o1_operation_quotients_cells h_o1_weights_values h_o1_weights_values_cells f_total a_colors f_o1_operation_size f_o1_operation_badColumn a_o1_operation_products_cells a_o1_operation_quotients_cells f_o1_weights_modulus a_o1_weights_values_cells)) [3, 6, 7] (va_runV (As := [.int x5_5, .int x4_4]) (rest := []) ⟨hx, hb, hml, hown, hts⟩ (c_X5_divide G _ h_o1_operation h_o1_operation_products h_o1_operation_quotients h_o1_operation_quotients_cells f_o1_operation_size f_o1_operation_badColumn a_o1_operation_quotients_cells x5_5 x4_4 hw) (cwV 2 hts gX7_pass_X5_divide rfl rfl rfl (by decide +kernel) ⟨Nat.le_of_ble_eq_true rfl, Nat.le_of_ble_eq_true rfl⟩) (qn_preV hE hP hD [3, 6, 7] hC9 (by decide +kernel) (ci := 5) rfl rfl) rfl rfl hl.1 rfl (lv_room (Nat.le_of_ble_eq_true rfl)) dX7_pass_105 ⟨Nat.le_of_ble_eq_true rfl, Nat.le_of_ble_eq_true rfl⟩) hP hD hS hA hC9 [none, none, none, some 0, none, none, some 1, some 2, none, none, none] (M := 11) rfl (by decide +kernel) (fun _ => rfl) (fun _ => rfl) (fun r_7 _ H locs hw hP hD hS => ?_)
        try dsimp only at hw
        have hP : va_P G.1 vwCl (wd_X7_pass G h_this h_top h_colors h_o1 h_o1_operation h_o1_braid h_o1_weights h_o1_operation_products h_o1_operation_quotients h_o1_operation_products_cells h_o1_operation_quotients_cells h_o1_weights_values h_o1_weights_values_cells f_total a_colors f_o1_operation_size f_o1_operation_badColumn a_o1_operation_products_cells a_o1_operation_quotients_cells f_o1_weights_modulus a_o1_weights_values_cells) H := hP
        have hD : va_D A (wd_X7_pass G h_this h_top h_colors h_o1 h_o1_operation h_o1_braid h_o1_weights h_o1_operation_products h_o1_operation_quotients h_o1_operation_products_cells h_o1_operation_quotients_cells h_o1_weights_values h_o1_weights_values_cells f_total a_colors f_o1_operation_size f_o1_operation_badColumn a_o1_operation_products_cells a_o1_operation_quotients_cells f_o1_weights_modulus a_o1_weights_values_cells) := hD
        refine lv_istore (lv' := [(6, .int r_7), (5, .int x5_5), (4, .int x4_4), (3, .int z_1), (0, .ref h_this), (1, .ref h_o1), (2, .int x2)]) hx hb dX7_pass_108 hl (by decide) rfl (fun ls hl => ?_)
        refine lv_aload_n hx hb dX7_pass_110 rfl (lv_at hl 4 rfl) ?_
        refine lv_aload_n hx hb dX7_pass_111 rfl (lv_at hl 5 rfl) ?_
        refine va_getN (D := G.1) (ci := 6) (v := .ref h_o1_weights) (C := RX6) (T := TX6) (N := 3) hx hb hts in_X7_pass_X6 hown hE.1 hP 2 rfl rfl 2 (by decide) (va_Nw.use rfl (qn_f_Tracer_74 hE.2.1)) (fun _ h9 => h9) rfl dX7_pass_112 ?_
        refine lv_aload_n hx hb dX7_pass_115 rfl (lv_at hl 4 rfl) ?_
        refine va_get (D := G.1) (ci := 7) (v := .int f_total) (C := RX7) (T := TX7) (N := 3) hx hb hts in_X7_pass_X7 hown hE.1 hP 0 rfl rfl 2 (by decide) (hts (.fieldLink RX7 18 "QuandleColorings$Tracer" "total" "I") lk_X7_pass_18) (fun _ h9 => h9) rfl dX7_pass_116 ?_
        refine lv_aload_n hx hb dX7_pass_119 rfl (lv_at hl 5 rfl) ?_
        refine va_getN (D := G.1) (ci := 6) (v := .ref h_o1_weights) (C := RX6) (T := TX6) (N := 3) hx hb hts in_X7_pass_X6 hown hE.1 hP 2 rfl rfl 2 (by decide) (va_Nw.use rfl (qn_f_Tracer_74 hE.2.1)) (fun _ h9 => h9) rfl dX7_pass_120 ?_
        refine va_getN (D := G.1) (ci := 8) (v := .ref h_o1_weights_values) (C := RX8) (T := TX8) (N := 2) hx hb hts in_X7_pass_X8 hown hE.1 hP 8 rfl rfl 1 (by decide) (va_Nw.use rfl (qn_f_Tracer_78 hE.2.1)) (fun _ h9 => h9) rfl dX7_pass_123 ?_
        refine lv_iload hx hb dX7_pass_126 (lv_at hl 0 rfl) ?_
        refine lv_iload hx hb dX7_pass_128 (lv_at hl 2 rfl) ?_
        have hC9 : ([9, 10]).map (fun i => (wd_X7_pass G h_this h_top h_colors h_o1 h_o1_operation h_o1_braid h_o1_weights h_o1_operation_products h_o1_operation_quotients h_o1_operation_products_cells h_o1_operation_quotients_cells h_o1_weights_values h_o1_weights_values_cells f_total a_colors f_o1_operation_size f_o1_operation_badColumn a_o1_operation_products_cells a_o1_operation_quotients_cells f_o1_weights_modulus a_o1_weights_values_cells)[i]?) = (wd_X2_get G h_o1_weights_values h_o1_weights_values_cells a_o1_weights_values_cells).map some := rfl
        refine qn_callI (wd := (fun u : Unit => wd_X7_pass G h_this h_top h_colors h_o1 h_o1_operation h_o1_braid h_o1_weights h_o1_operation_products h_o1_operation_quotients h_o1_operation_products_cells h_o1_operation_quotients_cells h_o1_weights_values h_o1_weights_values_cells f_total a_colors f_o1_operation_size f_o1_operation_badColumn a_o1_operation_products_cells a_o1_operation_quotients_cells f_o1_weights_modulus a_o1_weights_values_cells)) [9, 10] (va_runV (As := [.int r_7, .int x4_4]) (rest := [.int f_total, .ref h_o1_weights, .ref h_this]) ⟨hx, hb, hml, hown, hts⟩ (c_X2_get G _ h_o1_weights_values h_o1_weights_values_cells a_o1_weights_values_cells r_7 x4_4 hw) (cwV 2 hts gX7_pass_X2_get rfl rfl rfl (by decide +kernel) ⟨Nat.le_of_ble_eq_true rfl, Nat.le_of_ble_eq_true rfl⟩) (qn_preV hE hP hD [9, 10] hC9 (by decide +kernel) (ci := 2) rfl rfl) rfl rfl hl.1 rfl (lv_room (Nat.le_of_ble_eq_true rfl)) dX7_pass_130 ⟨Nat.le_of_ble_eq_true rfl, Nat.le_of_ble_eq_true rfl⟩) hP hD hS hA hC9 [none, none, none, none, none, none, none, none, none, some 0, some 1] (M := 11) rfl (by decide +kernel) (fun _ => rfl) (fun _ => rfl) (fun r_8 _ H locs hw hP hD hS => ?_)
        try dsimp only at hw
        have hP : va_P G.1 vwCl (wd_X7_pass G h_this h_top h_colors h_o1 h_o1_operation h_o1_braid h_o1_weights h_o1_operation_products h_o1_operation_quotients h_o1_operation_products_cells h_o1_operation_quotients_cells h_o1_weights_values h_o1_weights_values_cells f_total a_colors f_o1_operation_size f_o1_operation_badColumn a_o1_operation_products_cells a_o1_operation_quotients_cells f_o1_weights_modulus a_o1_weights_values_cells) H := hP
        have hD : va_D A (wd_X7_pass G h_this h_top h_colors h_o1 h_o1_operation h_o1_braid h_o1_weights h_o1_operation_products h_o1_operation_quotients h_o1_operation_products_cells h_o1_operation_quotients_cells h_o1_weights_values h_o1_weights_values_cells f_total a_colors f_o1_operation_size f_o1_operation_badColumn a_o1_operation_products_cells a_o1_operation_quotients_cells f_o1_weights_modulus a_o1_weights_values_cells) := hD
        have hC9 : ([8]).map (fun i => (wd_X7_pass G h_this h_top h_colors h_o1 h_o1_operation h_o1_braid h_o1_weights h_o1_operation_products h_o1_operation_quotients h_o1_operation_products_cells h_o1_operation_quotients_cells h_o1_weights_values h_o1_weights_values_cells f_total a_colors f_o1_operation_size f_o1_operation_badColumn a_o1_operation_products_cells a_o1_operation_quotients_cells f_o1_weights_modulus a_o1_weights_values_cells)[i]?) = (wd_X8_minus G h_o1_weights h_o1_weights_values f_o1_weights_modulus).map some := rfl
        refine qn_callI (wd := (fun u : Unit => wd_X7_pass G h_this h_top h_colors h_o1 h_o1_operation h_o1_braid h_o1_weights h_o1_operation_products h_o1_operation_quotients h_o1_operation_products_cells h_o1_operation_quotients_cells h_o1_weights_values h_o1_weights_values_cells f_total a_colors f_o1_operation_size f_o1_operation_badColumn a_o1_operation_products_cells a_o1_operation_quotients_cells f_o1_weights_modulus a_o1_weights_values_cells)) [8] (va_runV (As := [.int f_total, .int r_8]) (rest := [.ref h_this]) ⟨hx, hb, hml, hown, hts⟩ (c_X8_minus G _ h_o1_weights h_o1_weights_values f_o1_weights_modulus f_total r_8 hw) (cwV 2 hts gX7_pass_X8_minus rfl rfl rfl (by decide +kernel) ⟨Nat.le_of_ble_eq_true rfl, Nat.le_of_ble_eq_true rfl⟩) (qn_preV hE hP hD [8] hC9 (by decide +kernel) (ci := 8) rfl rfl) rfl rfl hl.1 rfl (lv_room (Nat.le_of_ble_eq_true rfl)) dX7_pass_133 ⟨Nat.le_of_ble_eq_true rfl, Nat.le_of_ble_eq_true rfl⟩) hP hD hS hA hC9 [none, none, none, none, none, none, none, none, some 0, none, none] (M := 11) rfl (by decide +kernel) (fun _ => rfl) (fun _ => rfl) (fun r_9 _ H locs hw hP hD hS => ?_)
        try dsimp only at hw
        have hP : va_P G.1 vwCl (wd_X7_pass G h_this h_top h_colors h_o1 h_o1_operation h_o1_braid h_o1_weights h_o1_operation_products h_o1_operation_quotients h_o1_operation_products_cells h_o1_operation_quotients_cells h_o1_weights_values h_o1_weights_values_cells f_total a_colors f_o1_operation_size f_o1_operation_badColumn a_o1_operation_products_cells a_o1_operation_quotients_cells f_o1_weights_modulus a_o1_weights_values_cells) H := hP
        have hD : va_D A (wd_X7_pass G h_this h_top h_colors h_o1 h_o1_operation h_o1_braid h_o1_weights h_o1_operation_products h_o1_operation_quotients h_o1_operation_products_cells h_o1_operation_quotients_cells h_o1_weights_values h_o1_weights_values_cells f_total a_colors f_o1_operation_size f_o1_operation_badColumn a_o1_operation_products_cells a_o1_operation_quotients_cells f_o1_weights_modulus a_o1_weights_values_cells) := hD
        refine va_put (D := G.1) (ci := 7) (v := .int r_9) (ty := .int) (C := RX7) (T := TX7) (N := 3) hx hb hts in_X7_pass_X7 tyX7 tyX7_ok nmX7 hown hE.1 hP hD hS 0 rfl rfl 2 (by decide) (hts (.fieldLink RX7 18 "QuandleColorings$Tracer" "total" "I") lk_X7_pass_18) (fun _ h9 => h9) rfl (by decide +kernel) rfl rfl (Nat.le_of_ble_eq_true rfl) dX7_pass_136 (fun H locs hP hD hS => ?_)
        have hP : va_P G.1 vwCl (wd_X7_pass G h_this h_top h_colors h_o1 h_o1_operation h_o1_braid h_o1_weights h_o1_operation_products h_o1_operation_quotients h_o1_operation_products_cells h_o1_operation_quotients_cells h_o1_weights_values h_o1_weights_values_cells r_9 a_colors f_o1_operation_size f_o1_operation_badColumn a_o1_operation_products_cells a_o1_operation_quotients_cells f_o1_weights_modulus a_o1_weights_values_cells) H := hP
        have hD : va_D A (wd_X7_pass G h_this h_top h_colors h_o1 h_o1_operation h_o1_braid h_o1_weights h_o1_operation_products h_o1_operation_quotients h_o1_operation_products_cells h_o1_operation_quotients_cells h_o1_weights_values h_o1_weights_values_cells r_9 a_colors f_o1_operation_size f_o1_operation_badColumn a_o1_operation_products_cells a_o1_operation_quotients_cells f_o1_weights_modulus a_o1_weights_values_cells) := hD
        refine lv_aload_n hx hb dX7_pass_139 rfl (lv_at hl 4 rfl) ?_
        refine va_get (D := G.1) (ci := 7) (v := .ref h_colors) (C := RX7) (T := TX7) (N := 3) hx hb hts in_X7_pass_X7 hown hE.1 hP 0 rfl rfl 1 (by decide) (hts (.fieldLink RX7 15 "QuandleColorings$Tracer" "colors" "[I") lk_X7_pass_15) (fun _ h9 => h9) rfl dX7_pass_140 ?_
        refine lv_iload_n hx hb dX7_pass_143 rfl (lv_at hl 3 rfl) ?_
        refine lv_iconst (v := 1) hx hb dX7_pass_144 (by decide) ?_
        refine lv_isub hx hb dX7_pass_145 ?_
        refine lv_iload hx hb dX7_pass_146 (lv_at hl 0 rfl) ?_
        have hin := hw.1
        have hw := hw.2
        obtain ⟨a_colors_10, ea_colors_10⟩ : ∃ y : Nat → Int32, y = upd a_colors (z_1 - 1).toNatClampNeg r_7 := ⟨_, rfl⟩
        have hw := hw a_colors_10 ea_colors_10
        refine va_iast hx hb hE.1 hP hD hS 1 0 rfl rfl hin dX7_pass_148 (fun H locs hP hD hS => ?_)
        rw [← ea_colors_10] at hP hD
        have hP : va_P G.1 vwCl (wd_X7_pass G h_this h_top h_colors h_o1 h_o1_operation h_o1_braid h_o1_weights h_o1_operation_products h_o1_operation_quotients h_o1_operation_products_cells h_o1_operation_quotients_cells h_o1_weights_values h_o1_weights_values_cells r_9 a_colors_10 f_o1_operation_size f_o1_operation_badColumn a_o1_operation_products_cells a_o1_operation_quotients_cells f_o1_weights_modulus a_o1_weights_values_cells) H := hP
        have hD : va_D A (wd_X7_pass G h_this h_top h_colors h_o1 h_o1_operation h_o1_braid h_o1_weights h_o1_operation_products h_o1_operation_quotients h_o1_operation_products_cells h_o1_operation_quotients_cells h_o1_weights_values h_o1_weights_values_cells r_9 a_colors_10 f_o1_operation_size f_o1_operation_badColumn a_o1_operation_products_cells a_o1_operation_quotients_cells f_o1_weights_modulus a_o1_weights_values_cells) := hD
        refine lv_aload_n hx hb dX7_pass_149 rfl (lv_at hl 4 rfl) ?_
        refine va_get (D := G.1) (ci := 7) (v := .ref h_colors) (C := RX7) (T := TX7) (N := 3) hx hb hts in_X7_pass_X7 hown hE.1 hP 0 rfl rfl 1 (by decide) (hts (.fieldLink RX7 15 "QuandleColorings$Tracer" "colors" "[I") lk_X7_pass_15) (fun _ h9 => h9) rfl dX7_pass_150 ?_
        refine lv_iload_n hx hb dX7_pass_153 rfl (lv_at hl 3 rfl) ?_
        refine lv_iload hx hb dX7_pass_154 (lv_at hl 2 rfl) ?_
        have hin := hw.1
        have hw := hw.2
        obtain ⟨a_colors_11, ea_colors_11⟩ : ∃ y : Nat → Int32, y = upd a_colors_10 z_1.toNatClampNeg x4_4 := ⟨_, rfl⟩
        have hw := hw a_colors_11 ea_colors_11
        refine va_iast hx hb hE.1 hP hD hS 1 0 rfl rfl hin dX7_pass_156 (fun H locs hP hD hS => ?_)
        rw [← ea_colors_11] at hP hD
        have hP : va_P G.1 vwCl (wd_X7_pass G h_this h_top h_colors h_o1 h_o1_operation h_o1_braid h_o1_weights h_o1_operation_products h_o1_operation_quotients h_o1_operation_products_cells h_o1_operation_quotients_cells h_o1_weights_values h_o1_weights_values_cells r_9 a_colors_11 f_o1_operation_size f_o1_operation_badColumn a_o1_operation_products_cells a_o1_operation_quotients_cells f_o1_weights_modulus a_o1_weights_values_cells) H := hP
        have hD : va_D A (wd_X7_pass G h_this h_top h_colors h_o1 h_o1_operation h_o1_braid h_o1_weights h_o1_operation_products h_o1_operation_quotients h_o1_operation_products_cells h_o1_operation_quotients_cells h_o1_weights_values h_o1_weights_values_cells r_9 a_colors_11 f_o1_operation_size f_o1_operation_badColumn a_o1_operation_products_cells a_o1_operation_quotients_cells f_o1_weights_modulus a_o1_weights_values_cells) := hD
        exact W.vret hx hb hr (fun t ht hW => ⟨⟨(r_9, a_colors_11), rfl, hw, by rw [ht]; exact hP, hD⟩, hS.F ht⟩) hS.2.2 dX7_pass_157
      · have hw := hw.2 c_6
        refine lv_aload_n hx hb dX7_pass_38 rfl (lv_at hl 3 rfl) ?_
        refine lv_aload_n hx hb dX7_pass_39 rfl (lv_at hl 4 rfl) ?_
        refine va_getN (D := G.1) (ci := 6) (v := .ref h_o1_weights) (C := RX6) (T := TX6) (N := 3) hx hb hts in_X7_pass_X6 hown hE.1 hP 2 rfl rfl 2 (by decide) (va_Nw.use rfl (qn_f_Tracer_74 hE.2.1)) (fun _ h9 => h9) rfl dX7_pass_40 ?_
        refine lv_aload_n hx hb dX7_pass_43 rfl (lv_at hl 3 rfl) ?_
        refine va_get (D := G.1) (ci := 7) (v := .int f_total) (C := RX7) (T := TX7) (N := 3) hx hb hts in_X7_pass_X7 hown hE.1 hP 0 rfl rfl 2 (by decide) (hts (.fieldLink RX7 18 "QuandleColorings$Tracer" "total" "I") lk_X7_pass_18) (fun _ h9 => h9) rfl dX7_pass_44 ?_
        refine lv_aload_n hx hb dX7_pass_47 rfl (lv_at hl 4 rfl) ?_
        refine va_getN (D := G.1) (ci := 6) (v := .ref h_o1_weights) (C := RX6) (T := TX6) (N := 3) hx hb hts in_X7_pass_X6 hown hE.1 hP 2 rfl rfl 2 (by decide) (va_Nw.use rfl (qn_f_Tracer_74 hE.2.1)) (fun _ h9 => h9) rfl dX7_pass_48 ?_
        refine va_getN (D := G.1) (ci := 8) (v := .ref h_o1_weights_values) (C := RX8) (T := TX8) (N := 2) hx hb hts in_X7_pass_X8 hown hE.1 hP 8 rfl rfl 1 (by decide) (va_Nw.use rfl (qn_f_Tracer_78 hE.2.1)) (fun _ h9 => h9) rfl dX7_pass_51 ?_
        refine lv_iload hx hb dX7_pass_54 (lv_at hl 1 rfl) ?_
        refine lv_iload hx hb dX7_pass_56 (lv_at hl 0 rfl) ?_
        have hC9 : ([9, 10]).map (fun i => (wd_X7_pass G h_this h_top h_colors h_o1 h_o1_operation h_o1_braid h_o1_weights h_o1_operation_products h_o1_operation_quotients h_o1_operation_products_cells h_o1_operation_quotients_cells h_o1_weights_values h_o1_weights_values_cells f_total a_colors f_o1_operation_size f_o1_operation_badColumn a_o1_operation_products_cells a_o1_operation_quotients_cells f_o1_weights_modulus a_o1_weights_values_cells)[i]?) = (wd_X2_get G h_o1_weights_values h_o1_weights_values_cells a_o1_weights_values_cells).map some := rfl
        refine qn_callI (wd := (fun u : Unit => wd_X7_pass G h_this h_top h_colors h_o1 h_o1_operation h_o1_braid h_o1_weights h_o1_operation_products h_o1_operation_quotients h_o1_operation_products_cells h_o1_operation_quotients_cells h_o1_weights_values h_o1_weights_values_cells f_total a_colors f_o1_operation_size f_o1_operation_badColumn a_o1_operation_products_cells a_o1_operation_quotients_cells f_o1_weights_modulus a_o1_weights_values_cells)) [9, 10] (va_runV (As := [.int x4_4, .int x5_5]) (rest := [.int f_total, .ref h_o1_weights, .ref h_this]) ⟨hx, hb, hml, hown, hts⟩ (c_X2_get G _ h_o1_weights_values h_o1_weights_values_cells a_o1_weights_values_cells x4_4 x5_5 hw) (cwV 2 hts gX7_pass_X2_get rfl rfl rfl (by decide +kernel) ⟨Nat.le_of_ble_eq_true rfl, Nat.le_of_ble_eq_true rfl⟩) (qn_preV hE hP hD [9, 10] hC9 (by decide +kernel) (ci := 2) rfl rfl) rfl rfl hl.1 rfl (lv_room (Nat.le_of_ble_eq_true rfl)) dX7_pass_58 ⟨Nat.le_of_ble_eq_true rfl, Nat.le_of_ble_eq_true rfl⟩) hP hD hS hA hC9 [none, none, none, none, none, none, none, none, none, some 0, some 1] (M := 11) rfl (by decide +kernel) (fun _ => rfl) (fun _ => rfl) (fun r_12 _ H locs hw hP hD hS => ?_)
        try dsimp only at hw
        have hP : va_P G.1 vwCl (wd_X7_pass G h_this h_top h_colors h_o1 h_o1_operation h_o1_braid h_o1_weights h_o1_operation_products h_o1_operation_quotients h_o1_operation_products_cells h_o1_operation_quotients_cells h_o1_weights_values h_o1_weights_values_cells f_total a_colors f_o1_operation_size f_o1_operation_badColumn a_o1_operation_products_cells a_o1_operation_quotients_cells f_o1_weights_modulus a_o1_weights_values_cells) H := hP
        have hD : va_D A (wd_X7_pass G h_this h_top h_colors h_o1 h_o1_operation h_o1_braid h_o1_weights h_o1_operation_products h_o1_operation_quotients h_o1_operation_products_cells h_o1_operation_quotients_cells h_o1_weights_values h_o1_weights_values_cells f_total a_colors f_o1_operation_size f_o1_operation_badColumn a_o1_operation_products_cells a_o1_operation_quotients_cells f_o1_weights_modulus a_o1_weights_values_cells) := hD
        have hC9 : ([8]).map (fun i => (wd_X7_pass G h_this h_top h_colors h_o1 h_o1_operation h_o1_braid h_o1_weights h_o1_operation_products h_o1_operation_quotients h_o1_operation_products_cells h_o1_operation_quotients_cells h_o1_weights_values h_o1_weights_values_cells f_total a_colors f_o1_operation_size f_o1_operation_badColumn a_o1_operation_products_cells a_o1_operation_quotients_cells f_o1_weights_modulus a_o1_weights_values_cells)[i]?) = (wd_X8_plus G h_o1_weights h_o1_weights_values f_o1_weights_modulus).map some := rfl
        refine qn_callI (wd := (fun u : Unit => wd_X7_pass G h_this h_top h_colors h_o1 h_o1_operation h_o1_braid h_o1_weights h_o1_operation_products h_o1_operation_quotients h_o1_operation_products_cells h_o1_operation_quotients_cells h_o1_weights_values h_o1_weights_values_cells f_total a_colors f_o1_operation_size f_o1_operation_badColumn a_o1_operation_products_cells a_o1_operation_quotients_cells f_o1_weights_modulus a_o1_weights_values_cells)) [8] (va_runV (As := [.int f_total, .int r_12]) (rest := [.ref h_this]) ⟨hx, hb, hml, hown, hts⟩ (c_X8_plus G _ h_o1_weights h_o1_weights_values f_o1_weights_modulus f_total r_12 hw) (cwV 2 hts gX7_pass_X8_plus rfl rfl rfl (by decide +kernel) ⟨Nat.le_of_ble_eq_true rfl, Nat.le_of_ble_eq_true rfl⟩) (qn_preV hE hP hD [8] hC9 (by decide +kernel) (ci := 8) rfl rfl) rfl rfl hl.1 rfl (lv_room (Nat.le_of_ble_eq_true rfl)) dX7_pass_61 ⟨Nat.le_of_ble_eq_true rfl, Nat.le_of_ble_eq_true rfl⟩) hP hD hS hA hC9 [none, none, none, none, none, none, none, none, some 0, none, none] (M := 11) rfl (by decide +kernel) (fun _ => rfl) (fun _ => rfl) (fun r_13 _ H locs hw hP hD hS => ?_)
        try dsimp only at hw
        have hP : va_P G.1 vwCl (wd_X7_pass G h_this h_top h_colors h_o1 h_o1_operation h_o1_braid h_o1_weights h_o1_operation_products h_o1_operation_quotients h_o1_operation_products_cells h_o1_operation_quotients_cells h_o1_weights_values h_o1_weights_values_cells f_total a_colors f_o1_operation_size f_o1_operation_badColumn a_o1_operation_products_cells a_o1_operation_quotients_cells f_o1_weights_modulus a_o1_weights_values_cells) H := hP
        have hD : va_D A (wd_X7_pass G h_this h_top h_colors h_o1 h_o1_operation h_o1_braid h_o1_weights h_o1_operation_products h_o1_operation_quotients h_o1_operation_products_cells h_o1_operation_quotients_cells h_o1_weights_values h_o1_weights_values_cells f_total a_colors f_o1_operation_size f_o1_operation_badColumn a_o1_operation_products_cells a_o1_operation_quotients_cells f_o1_weights_modulus a_o1_weights_values_cells) := hD
        refine va_put (D := G.1) (ci := 7) (v := .int r_13) (ty := .int) (C := RX7) (T := TX7) (N := 3) hx hb hts in_X7_pass_X7 tyX7 tyX7_ok nmX7 hown hE.1 hP hD hS 0 rfl rfl 2 (by decide) (hts (.fieldLink RX7 18 "QuandleColorings$Tracer" "total" "I") lk_X7_pass_18) (fun _ h9 => h9) rfl (by decide +kernel) rfl rfl (Nat.le_of_ble_eq_true rfl) dX7_pass_64 (fun H locs hP hD hS => ?_)
        have hP : va_P G.1 vwCl (wd_X7_pass G h_this h_top h_colors h_o1 h_o1_operation h_o1_braid h_o1_weights h_o1_operation_products h_o1_operation_quotients h_o1_operation_products_cells h_o1_operation_quotients_cells h_o1_weights_values h_o1_weights_values_cells r_13 a_colors f_o1_operation_size f_o1_operation_badColumn a_o1_operation_products_cells a_o1_operation_quotients_cells f_o1_weights_modulus a_o1_weights_values_cells) H := hP
        have hD : va_D A (wd_X7_pass G h_this h_top h_colors h_o1 h_o1_operation h_o1_braid h_o1_weights h_o1_operation_products h_o1_operation_quotients h_o1_operation_products_cells h_o1_operation_quotients_cells h_o1_weights_values h_o1_weights_values_cells r_13 a_colors f_o1_operation_size f_o1_operation_badColumn a_o1_operation_products_cells a_o1_operation_quotients_cells f_o1_weights_modulus a_o1_weights_values_cells) := hD
        refine lv_aload_n hx hb dX7_pass_67 rfl (lv_at hl 3 rfl) ?_
        refine va_get (D := G.1) (ci := 7) (v := .ref h_colors) (C := RX7) (T := TX7) (N := 3) hx hb hts in_X7_pass_X7 hown hE.1 hP 0 rfl rfl 1 (by decide) (hts (.fieldLink RX7 15 "QuandleColorings$Tracer" "colors" "[I") lk_X7_pass_15) (fun _ h9 => h9) rfl dX7_pass_68 ?_
        refine lv_iload_n hx hb dX7_pass_71 rfl (lv_at hl 2 rfl) ?_
        refine lv_iconst (v := 1) hx hb dX7_pass_72 (by decide) ?_
        refine lv_isub hx hb dX7_pass_73 ?_
        refine lv_iload hx hb dX7_pass_74 (lv_at hl 0 rfl) ?_
        have hin := hw.1
        have hw := hw.2
        obtain ⟨a_colors_14, ea_colors_14⟩ : ∃ y : Nat → Int32, y = upd a_colors (z_1 - 1).toNatClampNeg x5_5 := ⟨_, rfl⟩
        have hw := hw a_colors_14 ea_colors_14
        refine va_iast hx hb hE.1 hP hD hS 1 0 rfl rfl hin dX7_pass_76 (fun H locs hP hD hS => ?_)
        rw [← ea_colors_14] at hP hD
        have hP : va_P G.1 vwCl (wd_X7_pass G h_this h_top h_colors h_o1 h_o1_operation h_o1_braid h_o1_weights h_o1_operation_products h_o1_operation_quotients h_o1_operation_products_cells h_o1_operation_quotients_cells h_o1_weights_values h_o1_weights_values_cells r_13 a_colors_14 f_o1_operation_size f_o1_operation_badColumn a_o1_operation_products_cells a_o1_operation_quotients_cells f_o1_weights_modulus a_o1_weights_values_cells) H := hP
        have hD : va_D A (wd_X7_pass G h_this h_top h_colors h_o1 h_o1_operation h_o1_braid h_o1_weights h_o1_operation_products h_o1_operation_quotients h_o1_operation_products_cells h_o1_operation_quotients_cells h_o1_weights_values h_o1_weights_values_cells r_13 a_colors_14 f_o1_operation_size f_o1_operation_badColumn a_o1_operation_products_cells a_o1_operation_quotients_cells f_o1_weights_modulus a_o1_weights_values_cells) := hD
        refine lv_aload_n hx hb dX7_pass_77 rfl (lv_at hl 3 rfl) ?_
        refine va_get (D := G.1) (ci := 7) (v := .ref h_colors) (C := RX7) (T := TX7) (N := 3) hx hb hts in_X7_pass_X7 hown hE.1 hP 0 rfl rfl 1 (by decide) (hts (.fieldLink RX7 15 "QuandleColorings$Tracer" "colors" "[I") lk_X7_pass_15) (fun _ h9 => h9) rfl dX7_pass_78 ?_
        refine lv_iload_n hx hb dX7_pass_81 rfl (lv_at hl 2 rfl) ?_
        refine lv_aload_n hx hb dX7_pass_82 rfl (lv_at hl 4 rfl) ?_
        refine va_getN (D := G.1) (ci := 6) (v := .ref h_o1_operation) (C := RX6) (T := TX6) (N := 3) hx hb hts in_X7_pass_X6 hown hE.1 hP 2 rfl rfl 0 (by decide) (va_Nw.use rfl (qn_f_Tracer_45 hE.2.1)) (fun _ h9 => h9) rfl dX7_pass_83 ?_
        refine lv_iload hx hb dX7_pass_86 (lv_at hl 1 rfl) ?_
        refine lv_iload hx hb dX7_pass_88 (lv_at hl 0 rfl) ?_
        have hC9 : ([3, 4, 5]).map (fun i => (wd_X7_pass G h_this h_top h_colors h_o1 h_o1_operation h_o1_braid h_o1_weights h_o1_operation_products h_o1_operation_quotients h_o1_operation_products_cells h_o1_operation_quotients_cells h_o1_weights_values h_o1_weights_values_cells r_13 a_colors_14 f_o1_operation_size f_o1_operation_badColumn a_o1_operation_products_cells a_o1_operation_quotients_cells f_o1_weights_modulus a_o1_weights_values_cells)[i]?) = (wd_X5_product G h_o1_operation h_o1_operation_products h_o1_operation_quotients h_o1_operation_products_cells f_o1_operation_size f_o1_operation_badColumn a_o1_operation_products_cells).map some := rfl
        refine qn_callI (wd := (fun u : Unit => wd_X7_pass G h_this h_top h_colors h_o1 h_o1_operation h_o1_braid h_o1_weights h_o1_operation_products h_o1_operation_quotients h_o1_operation_products_cells h_o1_operation_quotients_cells h_o1_weights_values h_o1_weights_values_cells r_13 a_colors_14 f_o1_operation_size f_o1_operation_badColumn a_o1_operation_products_cells a_o1_operation_quotients_cells f_o1_weights_modulus a_o1_weights_values_cells)) [3, 4, 5] (va_runV (As := [.int x4_4, .int x5_5]) (rest := [.int z_1, .ref h_colors]) ⟨hx, hb, hml, hown, hts⟩ (c_X5_product G _ h_o1_operation h_o1_operation_products h_o1_operation_quotients h_o1_operation_products_cells f_o1_operation_size f_o1_operation_badColumn a_o1_operation_products_cells x4_4 x5_5 hw) (cwV 2 hts gX7_pass_X5_product rfl rfl rfl (by decide +kernel) ⟨Nat.le_of_ble_eq_true rfl, Nat.le_of_ble_eq_true rfl⟩) (qn_preV hE hP hD [3, 4, 5] hC9 (by decide +kernel) (ci := 5) rfl rfl) rfl rfl hl.1 rfl (lv_room (Nat.le_of_ble_eq_true rfl)) dX7_pass_90 ⟨Nat.le_of_ble_eq_true rfl, Nat.le_of_ble_eq_true rfl⟩) hP hD hS hA hC9 [none, none, none, some 0, some 1, some 2, none, none, none, none, none] (M := 11) rfl (by decide +kernel) (fun _ => rfl) (fun _ => rfl) (fun r_15 _ H locs hw hP hD hS => ?_)
        try dsimp only at hw
        have hP : va_P G.1 vwCl (wd_X7_pass G h_this h_top h_colors h_o1 h_o1_operation h_o1_braid h_o1_weights h_o1_operation_products h_o1_operation_quotients h_o1_operation_products_cells h_o1_operation_quotients_cells h_o1_weights_values h_o1_weights_values_cells r_13 a_colors_14 f_o1_operation_size f_o1_operation_badColumn a_o1_operation_products_cells a_o1_operation_quotients_cells f_o1_weights_modulus a_o1_weights_values_cells) H := hP
        have hD : va_D A (wd_X7_pass G h_this h_top h_colors h_o1 h_o1_operation h_o1_braid h_o1_weights h_o1_operation_products h_o1_operation_quotients h_o1_operation_products_cells h_o1_operation_quotients_cells h_o1_weights_values h_o1_weights_values_cells r_13 a_colors_14 f_o1_operation_size f_o1_operation_badColumn a_o1_operation_products_cells a_o1_operation_quotients_cells f_o1_weights_modulus a_o1_weights_values_cells) := hD
        have hin := hw.1
        have hw := hw.2
        obtain ⟨a_colors_16, ea_colors_16⟩ : ∃ y : Nat → Int32, y = upd a_colors_14 z_1.toNatClampNeg r_15 := ⟨_, rfl⟩
        have hw := hw a_colors_16 ea_colors_16
        refine va_iast hx hb hE.1 hP hD hS 1 0 rfl rfl hin dX7_pass_93 (fun H locs hP hD hS => ?_)
        rw [← ea_colors_16] at hP hD
        have hP : va_P G.1 vwCl (wd_X7_pass G h_this h_top h_colors h_o1 h_o1_operation h_o1_braid h_o1_weights h_o1_operation_products h_o1_operation_quotients h_o1_operation_products_cells h_o1_operation_quotients_cells h_o1_weights_values h_o1_weights_values_cells r_13 a_colors_16 f_o1_operation_size f_o1_operation_badColumn a_o1_operation_products_cells a_o1_operation_quotients_cells f_o1_weights_modulus a_o1_weights_values_cells) H := hP
        have hD : va_D A (wd_X7_pass G h_this h_top h_colors h_o1 h_o1_operation h_o1_braid h_o1_weights h_o1_operation_products h_o1_operation_quotients h_o1_operation_products_cells h_o1_operation_quotients_cells h_o1_weights_values h_o1_weights_values_cells r_13 a_colors_16 f_o1_operation_size f_o1_operation_badColumn a_o1_operation_products_cells a_o1_operation_quotients_cells f_o1_weights_modulus a_o1_weights_values_cells) := hD
        refine lv_goto (tgt := 157) hx hb dX7_pass_94 (by decide) ?_
        exact W.vret hx hb hr (fun t ht hW => ⟨⟨(r_13, a_colors_16), rfl, hw, by rw [ht]; exact hP, hD⟩, hS.F ht⟩) hS.2.2 dX7_pass_157
    · have hw := hw.2 c_3
      exact W.vret hx hb hr (fun t ht hW => ⟨⟨(f_total, a_colors), rfl, hw, by rw [ht]; exact hP, hD⟩, hS.F ht⟩) hS.2.2 dX7_pass_15
-- QuandleColorings$Tracer.closes(LQuandleColorings$State;)Z
abbrev rm_X7_closes : Room := { frames := 4, cells := 0, slots := 0, locals := 91 }
abbrev wd_X7_closes (G : qn_G) (h_this h_top h_colors h_o1 h_o1_operation h_o1_braid h_o1_weights h_o1_operation_products h_o1_operation_quotients h_o1_operation_products_cells h_o1_operation_quotients_cells h_o1_braid_crossings h_o1_weights_values h_o1_weights_values_cells : Nat) (f_total : Int32) (a_top : Nat → Int32) (a_colors : Nat → Int32) (f_o1_operation_size : Int32) (f_o1_operation_badColumn : Int32) (a_o1_operation_products_cells : Nat → Int32) (a_o1_operation_quotients_cells : Nat → Int32) (f_o1_braid_strands : Int32) (f_o1_braid_count : Int32) (a_o1_braid_crossings : Nat → Int32) (f_o1_weights_modulus : Int32) (a_o1_weights_values_cells : Nat → Int32) : va_W := [(h_this, .inr (7, [.ref h_top, .ref h_colors, .int f_total])), (h_top, .inl (G.2.1, 4, .inl a_top)), (h_colors, .inl (G.2.1, 4, .inl a_colors)), (h_o1, .inr (6, [.ref h_o1_operation, .ref h_o1_braid, .ref h_o1_weights])), (h_o1_operation, .inr (5, [.int f_o1_operation_size, .ref h_o1_operation_products, .ref h_o1_operation_quotients, .int f_o1_operation_badColumn])), (h_o1_operation_products, .inr (2, [.ref h_o1_operation_products_cells])), (h_o1_operation_products_cells, .inl (G.2.1, 36, .inl a_o1_operation_products_cells)), (h_o1_operation_quotients, .inr (2, [.ref h_o1_operation_quotients_cells])), (h_o1_operation_quotients_cells, .inl (G.2.1, 36, .inl a_o1_operation_quotients_cells)), (h_o1_braid, .inr (1, [.int f_o1_braid_strands, .int f_o1_braid_count, .ref h_o1_braid_crossings])), (h_o1_braid_crossings, .inl (G.2.1, 12, .inl a_o1_braid_crossings)), (h_o1_weights, .inr (8, [.int f_o1_weights_modulus, .ref h_o1_weights_values])), (h_o1_weights_values, .inr (2, [.ref h_o1_weights_values_cells])), (h_o1_weights_values_cells, .inl (G.2.1, 36, .inl a_o1_weights_values_cells))]
theorem in_X7_closes_X1 : ∀ w ∈ u_ws RX1 TX1 3, w ∈ wsX7_closes := by decide +kernel
theorem in_X7_closes_X6 : ∀ w ∈ u_ws RX6 TX6 3, w ∈ wsX7_closes := by decide +kernel
theorem in_X7_closes_X7 : ∀ w ∈ u_ws RX7 TX7 3, w ∈ wsX7_closes := by decide +kernel
theorem lk_X7_closes_15 : Cond.fieldLink RX7 15 "QuandleColorings$Tracer" "colors" "[I" ∈ wsX7_closes := by decide +kernel
theorem lk_X7_closes_18 : Cond.fieldLink RX7 18 "QuandleColorings$Tracer" "total" "I" ∈ wsX7_closes := by decide +kernel
theorem lk_X7_closes_9 : Cond.fieldLink RX7 9 "QuandleColorings$Tracer" "top" "[I" ∈ wsX7_closes := by decide +kernel
def wp_X7_closes_L2 (KL2 : (Nat → Int32) → Prop) (a_top : Nat → Int32) : Nat → Int32 → (Nat → Int32) → Prop
  | 0 => fun _ _ => False
  | fu + 1 => fun x2 a_colors => ((4 ≤ x2 → (KL2 a_colors)) ∧ (¬ 4 ≤ x2 → (vp_in x2 4 ∧ (vp_in x2 4 ∧ (∀ a_colors_2 : Nat → Int32, a_colors_2 = upd a_colors x2.toNatClampNeg (a_top x2.toNatClampNeg) → (∀ x2_3 : Int32, x2_3 = x2 + 1 → ((wp_X7_closes_L2 KL2 a_top fu) x2_3 a_colors_2)))))))
def wp_X7_closes_L32 (KL32 : Int32 → (Nat → Int32) → Prop) (a_o1_operation_products_cells : Nat → Int32) (a_o1_operation_quotients_cells : Nat → Int32) (f_o1_braid_count : Int32) (a_o1_braid_crossings : Nat → Int32) (f_o1_weights_modulus : Int32) (a_o1_weights_values_cells : Nat → Int32) : Nat → Int32 → Int32 → (Nat → Int32) → Prop
  | 0 => fun _ _ _ => False
  | fu + 1 => fun x2 f_total a_colors => ((f_o1_braid_count ≤ x2 → (KL32 f_total a_colors)) ∧ (¬ f_o1_braid_count ≤ x2 → (wp_X1_at (fun (r_6 : Int32) => (wp_X7_pass (fun (f_total_7 : Int32) (a_colors_8 : Nat → Int32) => (∀ x2_10 : Int32, x2_10 = x2 + 1 → ((wp_X7_closes_L32 KL32 a_o1_operation_products_cells a_o1_operation_quotients_cells f_o1_braid_count a_o1_braid_crossings f_o1_weights_modulus a_o1_weights_values_cells fu) x2_10 f_total_7 a_colors_8))) f_total a_colors a_o1_operation_products_cells a_o1_operation_quotients_cells f_o1_weights_modulus a_o1_weights_values_cells r_6)) f_o1_braid_count a_o1_braid_crossings x2)))
def wp_X7_closes_L64 (post : Int32 → Int32 → (Nat → Int32) → Prop) (KL64 : Prop) (f_total : Int32) (a_top : Nat → Int32) (a_colors : Nat → Int32) : Nat → Int32 → Prop
  | 0 => fun _ => False
  | fu + 1 => fun x2 => ((4 ≤ x2 → KL64) ∧ (¬ 4 ≤ x2 → (vp_in x2 4 ∧ (vp_in x2 4 ∧ (((a_colors x2.toNatClampNeg) = (a_top x2.toNatClampNeg) → (∀ x2_15 : Int32, x2_15 = x2 + 1 → ((wp_X7_closes_L64 post KL64 f_total a_top a_colors fu) x2_15))) ∧ (¬ (a_colors x2.toNatClampNeg) = (a_top x2.toNatClampNeg) → (post 0 f_total a_colors)))))))
def wp_X7_closes (post : Int32 → Int32 → (Nat → Int32) → Prop) (a_top : Nat → Int32) (a_colors : Nat → Int32) (a_o1_operation_products_cells : Nat → Int32) (a_o1_operation_quotients_cells : Nat → Int32) (f_o1_braid_count : Int32) (a_o1_braid_crossings : Nat → Int32) (f_o1_weights_modulus : Int32) (a_o1_weights_values_cells : Nat → Int32) : Prop := (∃ fu_18 : Nat, wp_X7_closes_L2 (fun (a_colors_4 : Nat → Int32) => (∃ fu_17 : Nat, wp_X7_closes_L32 (fun (f_total_11 : Int32) (a_colors_12 : Nat → Int32) => (∃ fu_16 : Nat, wp_X7_closes_L64 post (post 1 f_total_11 a_colors_12) f_total_11 a_top a_colors_12 fu_16 0)) a_o1_operation_products_cells a_o1_operation_quotients_cells f_o1_braid_count a_o1_braid_crossings f_o1_weights_modulus a_o1_weights_values_cells fu_17 0 0 a_colors_4)) a_top fu_18 0 a_colors)
set_option maxHeartbeats 4000000 in
set_option maxRecDepth 100000 in
theorem l_X7_closes_2 {p : Program} {l : Launch} {e : Env} {s : State} {m : MethodId} {args : Array Value} {below : List Frame} {meth : Method} {c : Code} {G : qn_G} {A : Nat → Prop} {h_this h_top h_colors h_o1 h_o1_operation h_o1_braid h_o1_weights h_o1_operation_products h_o1_operation_quotients h_o1_operation_products_cells h_o1_operation_quotients_cells h_o1_braid_crossings h_o1_weights_values h_o1_weights_values_cells : Nat} {f_total : Int32} {a_top : Nat → Int32} {f_o1_operation_size : Int32} {f_o1_operation_badColumn : Int32} {a_o1_operation_products_cells : Nat → Int32} {a_o1_operation_quotients_cells : Nat → Int32} {f_o1_braid_strands : Int32} {f_o1_braid_count : Int32} {a_o1_braid_crossings : Nat → Int32} {f_o1_weights_modulus : Int32} {a_o1_weights_values_cells : Nat → Int32} {post : Int32 → Int32 → (Nat → Int32) → Prop} {KL2 : (Nat → Int32) → Prop} (C0 : qn_C p m c cX7_closes 3 s args wsX7_closes RX7 meth (some .boolean)) (hE : qn_EV G s) (hA : ∀ q, s.heap.size ≤ q → A q) (hKc : ∀ (a_colors : Nat → Int32), KL2 a_colors → ∀ (H : Heap) (locs : List Loc) (ls : Array Slot), va_P G.1 vwCl (wd_X7_closes G h_this h_top h_colors h_o1 h_o1_operation h_o1_braid h_o1_weights h_o1_operation_products h_o1_operation_quotients h_o1_operation_products_cells h_o1_operation_quotients_cells h_o1_braid_crossings h_o1_weights_values h_o1_weights_values_cells f_total a_top a_colors f_o1_operation_size f_o1_operation_badColumn a_o1_operation_products_cells a_o1_operation_quotients_cells f_o1_braid_strands f_o1_braid_count a_o1_braid_crossings f_o1_weights_modulus a_o1_weights_values_cells) H → va_D A (wd_X7_closes G h_this h_top h_colors h_o1 h_o1_operation h_o1_braid h_o1_weights h_o1_operation_products h_o1_operation_quotients h_o1_operation_products_cells h_o1_operation_quotients_cells h_o1_braid_crossings h_o1_weights_values h_o1_weights_values_cells f_total a_top a_colors f_o1_operation_size f_o1_operation_badColumn a_o1_operation_products_cells a_o1_operation_quotients_cells f_o1_braid_strands f_o1_braid_count a_o1_braid_crossings f_o1_weights_modulus a_o1_weights_values_cells) → va_S A s.heap H locs → lv_has ls 3 [(0, .ref h_this), (1, .ref h_o1)] → W p l e (headSpec wsX7_closes rm_X7_closes).room s m args below meth c H locs 0 0 (MQ below (qn_QI G (fun (r : Int32) (u : Int32 × (Nat → Int32)) => post r u.1 u.2) (fun u : Int32 × (Nat → Int32) => wd_X7_closes G h_this h_top h_colors h_o1 h_o1_operation h_o1_braid h_o1_weights h_o1_operation_products h_o1_operation_quotients h_o1_operation_products_cells h_o1_operation_quotients_cells h_o1_braid_crossings h_o1_weights_values h_o1_weights_values_cells (u.1) a_top (u.2) f_o1_operation_size f_o1_operation_badColumn a_o1_operation_products_cells a_o1_operation_quotients_cells f_o1_braid_strands f_o1_braid_count a_o1_braid_crossings f_o1_weights_modulus a_o1_weights_values_cells) A) args s 0 0 A) (F0 m 25 ls [])) :
    ∀ (fu : Nat) (x2 : Int32) (a_colors : Nat → Int32), wp_X7_closes_L2 KL2 a_top fu x2 a_colors → ∀ (H : Heap) (locs : List Loc) (ls : Array Slot), va_P G.1 vwCl (wd_X7_closes G h_this h_top h_colors h_o1 h_o1_operation h_o1_braid h_o1_weights h_o1_operation_products h_o1_operation_quotients h_o1_operation_products_cells h_o1_operation_quotients_cells h_o1_braid_crossings h_o1_weights_values h_o1_weights_values_cells f_total a_top a_colors f_o1_operation_size f_o1_operation_badColumn a_o1_operation_products_cells a_o1_operation_quotients_cells f_o1_braid_strands f_o1_braid_count a_o1_braid_crossings f_o1_weights_modulus a_o1_weights_values_cells) H → va_D A (wd_X7_closes G h_this h_top h_colors h_o1 h_o1_operation h_o1_braid h_o1_weights h_o1_operation_products h_o1_operation_quotients h_o1_operation_products_cells h_o1_operation_quotients_cells h_o1_braid_crossings h_o1_weights_values h_o1_weights_values_cells f_total a_top a_colors f_o1_operation_size f_o1_operation_badColumn a_o1_operation_products_cells a_o1_operation_quotients_cells f_o1_braid_strands f_o1_braid_count a_o1_braid_crossings f_o1_weights_modulus a_o1_weights_values_cells) → va_S A s.heap H locs → lv_has ls 3 [(0, .ref h_this), (1, .ref h_o1), (2, .int x2)] → W p l e (headSpec wsX7_closes rm_X7_closes).room s m args below meth c H locs 0 0 (MQ below (qn_QI G (fun (r : Int32) (u : Int32 × (Nat → Int32)) => post r u.1 u.2) (fun u : Int32 × (Nat → Int32) => wd_X7_closes G h_this h_top h_colors h_o1 h_o1_operation h_o1_braid h_o1_weights h_o1_operation_products h_o1_operation_quotients h_o1_operation_products_cells h_o1_operation_quotients_cells h_o1_braid_crossings h_o1_weights_values h_o1_weights_values_cells (u.1) a_top (u.2) f_o1_operation_size f_o1_operation_badColumn a_o1_operation_products_cells a_o1_operation_quotients_cells f_o1_braid_strands f_o1_braid_count a_o1_braid_crossings f_o1_weights_modulus a_o1_weights_values_cells) A) args s 0 0 A) (F0 m 2 ls []) := by
  obtain ⟨hx, hb, hml, hown, hts, hr, hlocks⟩ := id C0
  intro fu
  induction fu with
  | zero => intro x2 a_colors hw; exact hw.elim
  | succ fu ih =>
    intro x2 a_colors hw H locs ls hP hD hS hl
    refine lv_iload_n hx hb dX7_closes_2 rfl (lv_at hl 2 rfl) ?_
    refine lv_iconst (v := 4) hx hb dX7_closes_3 (by decide) ?_
    refine lv_icmp_ge (tgt := 25) hx hb dX7_closes_4 (by decide) (fun c_1 => ?_) (fun c_1 => ?_)
    · have hw := hw.1 c_1
      exact hKc a_colors hw _ _ _ hP hD hS (lv_sub hl [0, 1] rfl)
    · have hw := hw.2 c_1
      refine lv_aload_n hx hb dX7_closes_7 rfl (lv_at hl 0 rfl) ?_
      refine va_get (D := G.1) (ci := 7) (v := .ref h_colors) (C := RX7) (T := TX7) (N := 3) hx hb hts in_X7_closes_X7 hown hE.1 hP 0 rfl rfl 1 (by decide) (hts (.fieldLink RX7 15 "QuandleColorings$Tracer" "colors" "[I") lk_X7_closes_15) (fun _ h9 => h9) rfl dX7_closes_8 ?_
      refine lv_iload_n hx hb dX7_closes_11 rfl (lv_at hl 2 rfl) ?_
      refine lv_aload_n hx hb dX7_closes_12 rfl (lv_at hl 0 rfl) ?_
      refine va_get (D := G.1) (ci := 7) (v := .ref h_top) (C := RX7) (T := TX7) (N := 3) hx hb hts in_X7_closes_X7 hown hE.1 hP 0 rfl rfl 0 (by decide) (hts (.fieldLink RX7 9 "QuandleColorings$Tracer" "top" "[I") lk_X7_closes_9) (fun _ h9 => h9) rfl dX7_closes_13 ?_
      refine lv_iload_n hx hb dX7_closes_16 rfl (lv_at hl 2 rfl) ?_
      have hin := hw.1
      have hw := hw.2
      refine va_iald hx hb hE.1 hP 1 0 rfl rfl hin dX7_closes_17 ?_
      have hin := hw.1
      have hw := hw.2
      obtain ⟨a_colors_2, ea_colors_2⟩ : ∃ y : Nat → Int32, y = upd a_colors x2.toNatClampNeg (a_top x2.toNatClampNeg) := ⟨_, rfl⟩
      have hw := hw a_colors_2 ea_colors_2
      refine va_iast hx hb hE.1 hP hD hS 2 0 rfl rfl hin dX7_closes_18 (fun H locs hP hD hS => ?_)
      rw [← ea_colors_2] at hP hD
      have hP : va_P G.1 vwCl (wd_X7_closes G h_this h_top h_colors h_o1 h_o1_operation h_o1_braid h_o1_weights h_o1_operation_products h_o1_operation_quotients h_o1_operation_products_cells h_o1_operation_quotients_cells h_o1_braid_crossings h_o1_weights_values h_o1_weights_values_cells f_total a_top a_colors_2 f_o1_operation_size f_o1_operation_badColumn a_o1_operation_products_cells a_o1_operation_quotients_cells f_o1_braid_strands f_o1_braid_count a_o1_braid_crossings f_o1_weights_modulus a_o1_weights_values_cells) H := hP
      have hD : va_D A (wd_X7_closes G h_this h_top h_colors h_o1 h_o1_operation h_o1_braid h_o1_weights h_o1_operation_products h_o1_operation_quotients h_o1_operation_products_cells h_o1_operation_quotients_cells h_o1_braid_crossings h_o1_weights_values h_o1_weights_values_cells f_total a_top a_colors_2 f_o1_operation_size f_o1_operation_badColumn a_o1_operation_products_cells a_o1_operation_quotients_cells f_o1_braid_strands f_o1_braid_count a_o1_braid_crossings f_o1_weights_modulus a_o1_weights_values_cells) := hD
      obtain ⟨x2_3, ex2_3⟩ : ∃ y : Int32, y = x2 + 1 := ⟨_, rfl⟩
      have hw := hw x2_3 ex2_3
      refine lv_iinc (v := x2_3) (lv' := [(2, .int x2_3), (0, .ref h_this), (1, .ref h_o1)]) hx hb dX7_closes_19 hl (k := 2) rfl (by rw [ex2_3]; rfl) (by decide) rfl (fun ls hl => ?_)
      refine lv_goto (tgt := 2) hx hb dX7_closes_22 (by decide) ?_
      exact ih x2_3 a_colors_2 hw _ _ _ hP hD hS (lv_sub hl [1, 2, 0] rfl)
set_option maxHeartbeats 4000000 in
set_option maxRecDepth 100000 in
theorem l_X7_closes_32 {p : Program} {l : Launch} {e : Env} {s : State} {m : MethodId} {args : Array Value} {below : List Frame} {meth : Method} {c : Code} {G : qn_G} {A : Nat → Prop} {h_this h_top h_colors h_o1 h_o1_operation h_o1_braid h_o1_weights h_o1_operation_products h_o1_operation_quotients h_o1_operation_products_cells h_o1_operation_quotients_cells h_o1_braid_crossings h_o1_weights_values h_o1_weights_values_cells : Nat} {a_top : Nat → Int32} {f_o1_operation_size : Int32} {f_o1_operation_badColumn : Int32} {a_o1_operation_products_cells : Nat → Int32} {a_o1_operation_quotients_cells : Nat → Int32} {f_o1_braid_strands : Int32} {f_o1_braid_count : Int32} {a_o1_braid_crossings : Nat → Int32} {f_o1_weights_modulus : Int32} {a_o1_weights_values_cells : Nat → Int32} {post : Int32 → Int32 → (Nat → Int32) → Prop} {KL32 : Int32 → (Nat → Int32) → Prop} (C0 : qn_C p m c cX7_closes 3 s args wsX7_closes RX7 meth (some .boolean)) (hE : qn_EV G s) (hA : ∀ q, s.heap.size ≤ q → A q) (hKc : ∀ (f_total : Int32) (a_colors : Nat → Int32), KL32 f_total a_colors → ∀ (H : Heap) (locs : List Loc) (ls : Array Slot), va_P G.1 vwCl (wd_X7_closes G h_this h_top h_colors h_o1 h_o1_operation h_o1_braid h_o1_weights h_o1_operation_products h_o1_operation_quotients h_o1_operation_products_cells h_o1_operation_quotients_cells h_o1_braid_crossings h_o1_weights_values h_o1_weights_values_cells f_total a_top a_colors f_o1_operation_size f_o1_operation_badColumn a_o1_operation_products_cells a_o1_operation_quotients_cells f_o1_braid_strands f_o1_braid_count a_o1_braid_crossings f_o1_weights_modulus a_o1_weights_values_cells) H → va_D A (wd_X7_closes G h_this h_top h_colors h_o1 h_o1_operation h_o1_braid h_o1_weights h_o1_operation_products h_o1_operation_quotients h_o1_operation_products_cells h_o1_operation_quotients_cells h_o1_braid_crossings h_o1_weights_values h_o1_weights_values_cells f_total a_top a_colors f_o1_operation_size f_o1_operation_badColumn a_o1_operation_products_cells a_o1_operation_quotients_cells f_o1_braid_strands f_o1_braid_count a_o1_braid_crossings f_o1_weights_modulus a_o1_weights_values_cells) → va_S A s.heap H locs → lv_has ls 3 [(0, .ref h_this)] → W p l e (headSpec wsX7_closes rm_X7_closes).room s m args below meth c H locs 0 0 (MQ below (qn_QI G (fun (r : Int32) (u : Int32 × (Nat → Int32)) => post r u.1 u.2) (fun u : Int32 × (Nat → Int32) => wd_X7_closes G h_this h_top h_colors h_o1 h_o1_operation h_o1_braid h_o1_weights h_o1_operation_products h_o1_operation_quotients h_o1_operation_products_cells h_o1_operation_quotients_cells h_o1_braid_crossings h_o1_weights_values h_o1_weights_values_cells (u.1) a_top (u.2) f_o1_operation_size f_o1_operation_badColumn a_o1_operation_products_cells a_o1_operation_quotients_cells f_o1_braid_strands f_o1_braid_count a_o1_braid_crossings f_o1_weights_modulus a_o1_weights_values_cells) A) args s 0 0 A) (F0 m 62 ls [])) :
    ∀ (fu : Nat) (x2 : Int32) (f_total : Int32) (a_colors : Nat → Int32), wp_X7_closes_L32 KL32 a_o1_operation_products_cells a_o1_operation_quotients_cells f_o1_braid_count a_o1_braid_crossings f_o1_weights_modulus a_o1_weights_values_cells fu x2 f_total a_colors → ∀ (H : Heap) (locs : List Loc) (ls : Array Slot), va_P G.1 vwCl (wd_X7_closes G h_this h_top h_colors h_o1 h_o1_operation h_o1_braid h_o1_weights h_o1_operation_products h_o1_operation_quotients h_o1_operation_products_cells h_o1_operation_quotients_cells h_o1_braid_crossings h_o1_weights_values h_o1_weights_values_cells f_total a_top a_colors f_o1_operation_size f_o1_operation_badColumn a_o1_operation_products_cells a_o1_operation_quotients_cells f_o1_braid_strands f_o1_braid_count a_o1_braid_crossings f_o1_weights_modulus a_o1_weights_values_cells) H → va_D A (wd_X7_closes G h_this h_top h_colors h_o1 h_o1_operation h_o1_braid h_o1_weights h_o1_operation_products h_o1_operation_quotients h_o1_operation_products_cells h_o1_operation_quotients_cells h_o1_braid_crossings h_o1_weights_values h_o1_weights_values_cells f_total a_top a_colors f_o1_operation_size f_o1_operation_badColumn a_o1_operation_products_cells a_o1_operation_quotients_cells f_o1_braid_strands f_o1_braid_count a_o1_braid_crossings f_o1_weights_modulus a_o1_weights_values_cells) → va_S A s.heap H locs → lv_has ls 3 [(0, .ref h_this), (1, .ref h_o1), (2, .int x2)] → W p l e (headSpec wsX7_closes rm_X7_closes).room s m args below meth c H locs 0 0 (MQ below (qn_QI G (fun (r : Int32) (u : Int32 × (Nat → Int32)) => post r u.1 u.2) (fun u : Int32 × (Nat → Int32) => wd_X7_closes G h_this h_top h_colors h_o1 h_o1_operation h_o1_braid h_o1_weights h_o1_operation_products h_o1_operation_quotients h_o1_operation_products_cells h_o1_operation_quotients_cells h_o1_braid_crossings h_o1_weights_values h_o1_weights_values_cells (u.1) a_top (u.2) f_o1_operation_size f_o1_operation_badColumn a_o1_operation_products_cells a_o1_operation_quotients_cells f_o1_braid_strands f_o1_braid_count a_o1_braid_crossings f_o1_weights_modulus a_o1_weights_values_cells) A) args s 0 0 A) (F0 m 32 ls []) := by
  obtain ⟨hx, hb, hml, hown, hts, hr, hlocks⟩ := id C0
  intro fu
  induction fu with
  | zero => intro x2 f_total a_colors hw; exact hw.elim
  | succ fu ih =>
    intro x2 f_total a_colors hw H locs ls hP hD hS hl
    refine lv_iload_n hx hb dX7_closes_32 rfl (lv_at hl 2 rfl) ?_
    refine lv_aload_n hx hb dX7_closes_33 rfl (lv_at hl 1 rfl) ?_
    refine va_getN (D := G.1) (ci := 6) (v := .ref h_o1_braid) (C := RX6) (T := TX6) (N := 3) hx hb hts in_X7_closes_X6 hown hE.1 hP 3 rfl rfl 1 (by decide) (va_Nw.use rfl (qn_f_Tracer_34 hE.2.1)) (fun _ h9 => h9) rfl dX7_closes_34 ?_
    refine va_getN (D := G.1) (ci := 1) (v := .int f_o1_braid_count) (C := RX1) (T := TX1) (N := 3) hx hb hts in_X7_closes_X1 hown hE.1 hP 9 rfl rfl 1 (by decide) (va_Nw.use rfl (qn_f_Tracer_60 hE.2.1)) (fun _ h9 => h9) rfl dX7_closes_37 ?_
    refine lv_icmp_ge (tgt := 62) hx hb dX7_closes_40 (by decide) (fun c_5 => ?_) (fun c_5 => ?_)
    · have hw := hw.1 c_5
      exact hKc f_total a_colors hw _ _ _ hP hD hS (lv_sub hl [0] rfl)
    · have hw := hw.2 c_5
      refine lv_aload_n hx hb dX7_closes_43 rfl (lv_at hl 0 rfl) ?_
      refine lv_aload_n hx hb dX7_closes_44 rfl (lv_at hl 1 rfl) ?_
      refine lv_aload_n hx hb dX7_closes_45 rfl (lv_at hl 1 rfl) ?_
      refine va_getN (D := G.1) (ci := 6) (v := .ref h_o1_braid) (C := RX6) (T := TX6) (N := 3) hx hb hts in_X7_closes_X6 hown hE.1 hP 3 rfl rfl 1 (by decide) (va_Nw.use rfl (qn_f_Tracer_34 hE.2.1)) (fun _ h9 => h9) rfl dX7_closes_46 ?_
      refine lv_iload_n hx hb dX7_closes_49 rfl (lv_at hl 2 rfl) ?_
      have hC9 : ([9, 10]).map (fun i => (wd_X7_closes G h_this h_top h_colors h_o1 h_o1_operation h_o1_braid h_o1_weights h_o1_operation_products h_o1_operation_quotients h_o1_operation_products_cells h_o1_operation_quotients_cells h_o1_braid_crossings h_o1_weights_values h_o1_weights_values_cells f_total a_top a_colors f_o1_operation_size f_o1_operation_badColumn a_o1_operation_products_cells a_o1_operation_quotients_cells f_o1_braid_strands f_o1_braid_count a_o1_braid_crossings f_o1_weights_modulus a_o1_weights_values_cells)[i]?) = (wd_X1_at G h_o1_braid h_o1_braid_crossings f_o1_braid_strands f_o1_braid_count a_o1_braid_crossings).map some := rfl
      refine qn_callI (wd := (fun u : Unit => wd_X7_closes G h_this h_top h_colors h_o1 h_o1_operation h_o1_braid h_o1_weights h_o1_operation_products h_o1_operation_quotients h_o1_operation_products_cells h_o1_operation_quotients_cells h_o1_braid_crossings h_o1_weights_values h_o1_weights_values_cells f_total a_top a_colors f_o1_operation_size f_o1_operation_badColumn a_o1_operation_products_cells a_o1_operation_quotients_cells f_o1_braid_strands f_o1_braid_count a_o1_braid_crossings f_o1_weights_modulus a_o1_weights_values_cells)) [9, 10] (va_runV (As := [.int x2]) (rest := [.ref h_o1, .ref h_this]) ⟨hx, hb, hml, hown, hts⟩ (c_X1_at G _ h_o1_braid h_o1_braid_crossings f_o1_braid_strands f_o1_braid_count a_o1_braid_crossings x2 hw) (cwV 1 hts gX7_closes_X1_at rfl rfl rfl (by decide +kernel) ⟨Nat.le_of_ble_eq_true rfl, Nat.le_of_ble_eq_true rfl⟩) (qn_preV hE hP hD [9, 10] hC9 (by decide +kernel) (ci := 1) rfl rfl) rfl rfl hl.1 rfl (lv_room (Nat.le_of_ble_eq_true rfl)) dX7_closes_50 ⟨Nat.le_of_ble_eq_true rfl, Nat.le_of_ble_eq_true rfl⟩) hP hD hS hA hC9 [none, none, none, none, none, none, none, none, none, some 0, some 1, none, none, none] (M := 14) rfl (by decide +kernel) (fun _ => rfl) (fun _ => rfl) (fun r_6 _ H locs hw hP hD hS => ?_)
      try dsimp only at hw
      have hP : va_P G.1 vwCl (wd_X7_closes G h_this h_top h_colors h_o1 h_o1_operation h_o1_braid h_o1_weights h_o1_operation_products h_o1_operation_quotients h_o1_operation_products_cells h_o1_operation_quotients_cells h_o1_braid_crossings h_o1_weights_values h_o1_weights_values_cells f_total a_top a_colors f_o1_operation_size f_o1_operation_badColumn a_o1_operation_products_cells a_o1_operation_quotients_cells f_o1_braid_strands f_o1_braid_count a_o1_braid_crossings f_o1_weights_modulus a_o1_weights_values_cells) H := hP
      have hD : va_D A (wd_X7_closes G h_this h_top h_colors h_o1 h_o1_operation h_o1_braid h_o1_weights h_o1_operation_products h_o1_operation_quotients h_o1_operation_products_cells h_o1_operation_quotients_cells h_o1_braid_crossings h_o1_weights_values h_o1_weights_values_cells f_total a_top a_colors f_o1_operation_size f_o1_operation_badColumn a_o1_operation_products_cells a_o1_operation_quotients_cells f_o1_braid_strands f_o1_braid_count a_o1_braid_crossings f_o1_weights_modulus a_o1_weights_values_cells) := hD
      have hC9 : ([0, 2, 3, 4, 5, 6, 7, 8, 11, 12, 13]).map (fun i => (wd_X7_closes G h_this h_top h_colors h_o1 h_o1_operation h_o1_braid h_o1_weights h_o1_operation_products h_o1_operation_quotients h_o1_operation_products_cells h_o1_operation_quotients_cells h_o1_braid_crossings h_o1_weights_values h_o1_weights_values_cells f_total a_top a_colors f_o1_operation_size f_o1_operation_badColumn a_o1_operation_products_cells a_o1_operation_quotients_cells f_o1_braid_strands f_o1_braid_count a_o1_braid_crossings f_o1_weights_modulus a_o1_weights_values_cells)[i]?) = (wd_X7_pass G h_this h_top h_colors h_o1 h_o1_operation h_o1_braid h_o1_weights h_o1_operation_products h_o1_operation_quotients h_o1_operation_products_cells h_o1_operation_quotients_cells h_o1_weights_values h_o1_weights_values_cells f_total a_colors f_o1_operation_size f_o1_operation_badColumn a_o1_operation_products_cells a_o1_operation_quotients_cells f_o1_weights_modulus a_o1_weights_values_cells).map some := rfl
      refine qn_callV (wd := (fun u : Int32 × (Nat → Int32) => wd_X7_closes G h_this h_top h_colors h_o1 h_o1_operation h_o1_braid h_o1_weights h_o1_operation_products h_o1_operation_quotients h_o1_operation_products_cells h_o1_operation_quotients_cells h_o1_braid_crossings h_o1_weights_values h_o1_weights_values_cells (u.1) a_top (u.2) f_o1_operation_size f_o1_operation_badColumn a_o1_operation_products_cells a_o1_operation_quotients_cells f_o1_braid_strands f_o1_braid_count a_o1_braid_crossings f_o1_weights_modulus a_o1_weights_values_cells)) [0, 2, 3, 4, 5, 6, 7, 8, 11, 12, 13] (va_runV (As := [.ref h_o1, .int r_6]) (rest := []) ⟨hx, hb, hml, hown, hts⟩ (c_X7_pass G _ h_this h_top h_colors h_o1 h_o1_operation h_o1_braid h_o1_weights h_o1_operation_products h_o1_operation_quotients h_o1_operation_products_cells h_o1_operation_quotients_cells h_o1_weights_values h_o1_weights_values_cells f_total a_colors f_o1_operation_size f_o1_operation_badColumn a_o1_operation_products_cells a_o1_operation_quotients_cells f_o1_weights_modulus a_o1_weights_values_cells r_6 hw) (cwV 2 hts gX7_closes_X7_pass rfl rfl rfl (by decide +kernel) ⟨Nat.le_of_ble_eq_true rfl, Nat.le_of_ble_eq_true rfl⟩) (qn_preV hE hP hD [0, 2, 3, 4, 5, 6, 7, 8, 11, 12, 13] hC9 (by decide +kernel) (ci := 7) rfl rfl) rfl rfl hl.1 rfl (lv_room (Nat.le_of_ble_eq_true rfl)) dX7_closes_53 ⟨Nat.le_of_ble_eq_true rfl, Nat.le_of_ble_eq_true rfl⟩) hP hD hS hA hC9 [some 0, none, some 1, some 2, some 3, some 4, some 5, some 6, some 7, none, none, some 8, some 9, some 10] (M := 14) rfl (by decide +kernel) (fun _ => rfl) (fun _ => rfl) (fun u_9 H locs hw hP hD hS => ?_)
      obtain ⟨f_total_7, a_colors_8⟩ := u_9
      try dsimp only at hw
      have hP : va_P G.1 vwCl (wd_X7_closes G h_this h_top h_colors h_o1 h_o1_operation h_o1_braid h_o1_weights h_o1_operation_products h_o1_operation_quotients h_o1_operation_products_cells h_o1_operation_quotients_cells h_o1_braid_crossings h_o1_weights_values h_o1_weights_values_cells f_total_7 a_top a_colors_8 f_o1_operation_size f_o1_operation_badColumn a_o1_operation_products_cells a_o1_operation_quotients_cells f_o1_braid_strands f_o1_braid_count a_o1_braid_crossings f_o1_weights_modulus a_o1_weights_values_cells) H := hP
      have hD : va_D A (wd_X7_closes G h_this h_top h_colors h_o1 h_o1_operation h_o1_braid h_o1_weights h_o1_operation_products h_o1_operation_quotients h_o1_operation_products_cells h_o1_operation_quotients_cells h_o1_braid_crossings h_o1_weights_values h_o1_weights_values_cells f_total_7 a_top a_colors_8 f_o1_operation_size f_o1_operation_badColumn a_o1_operation_products_cells a_o1_operation_quotients_cells f_o1_braid_strands f_o1_braid_count a_o1_braid_crossings f_o1_weights_modulus a_o1_weights_values_cells) := hD
      obtain ⟨x2_10, ex2_10⟩ : ∃ y : Int32, y = x2 + 1 := ⟨_, rfl⟩
      have hw := hw x2_10 ex2_10
      refine lv_iinc (v := x2_10) (lv' := [(2, .int x2_10), (0, .ref h_this), (1, .ref h_o1)]) hx hb dX7_closes_56 hl (k := 2) rfl (by rw [ex2_10]; rfl) (by decide) rfl (fun ls hl => ?_)
      refine lv_goto (tgt := 32) hx hb dX7_closes_59 (by decide) ?_
      exact ih x2_10 f_total_7 a_colors_8 hw _ _ _ hP hD hS (lv_sub hl [1, 2, 0] rfl)
set_option maxHeartbeats 4000000 in
set_option maxRecDepth 100000 in
theorem l_X7_closes_64 {p : Program} {l : Launch} {e : Env} {s : State} {m : MethodId} {args : Array Value} {below : List Frame} {meth : Method} {c : Code} {G : qn_G} {A : Nat → Prop} {h_this h_top h_colors h_o1 h_o1_operation h_o1_braid h_o1_weights h_o1_operation_products h_o1_operation_quotients h_o1_operation_products_cells h_o1_operation_quotients_cells h_o1_braid_crossings h_o1_weights_values h_o1_weights_values_cells : Nat} {f_total : Int32} {a_top : Nat → Int32} {a_colors : Nat → Int32} {f_o1_operation_size : Int32} {f_o1_operation_badColumn : Int32} {a_o1_operation_products_cells : Nat → Int32} {a_o1_operation_quotients_cells : Nat → Int32} {f_o1_braid_strands : Int32} {f_o1_braid_count : Int32} {a_o1_braid_crossings : Nat → Int32} {f_o1_weights_modulus : Int32} {a_o1_weights_values_cells : Nat → Int32} {post : Int32 → Int32 → (Nat → Int32) → Prop} {KL64 : Prop} (C0 : qn_C p m c cX7_closes 3 s args wsX7_closes RX7 meth (some .boolean)) (hE : qn_EV G s) (hA : ∀ q, s.heap.size ≤ q → A q) (hKc : KL64 → ∀ (H : Heap) (locs : List Loc) (ls : Array Slot), va_P G.1 vwCl (wd_X7_closes G h_this h_top h_colors h_o1 h_o1_operation h_o1_braid h_o1_weights h_o1_operation_products h_o1_operation_quotients h_o1_operation_products_cells h_o1_operation_quotients_cells h_o1_braid_crossings h_o1_weights_values h_o1_weights_values_cells f_total a_top a_colors f_o1_operation_size f_o1_operation_badColumn a_o1_operation_products_cells a_o1_operation_quotients_cells f_o1_braid_strands f_o1_braid_count a_o1_braid_crossings f_o1_weights_modulus a_o1_weights_values_cells) H → va_D A (wd_X7_closes G h_this h_top h_colors h_o1 h_o1_operation h_o1_braid h_o1_weights h_o1_operation_products h_o1_operation_quotients h_o1_operation_products_cells h_o1_operation_quotients_cells h_o1_braid_crossings h_o1_weights_values h_o1_weights_values_cells f_total a_top a_colors f_o1_operation_size f_o1_operation_badColumn a_o1_operation_products_cells a_o1_operation_quotients_cells f_o1_braid_strands f_o1_braid_count a_o1_braid_crossings f_o1_weights_modulus a_o1_weights_values_cells) → va_S A s.heap H locs → lv_has ls 3 [] → W p l e (headSpec wsX7_closes rm_X7_closes).room s m args below meth c H locs 0 0 (MQ below (qn_QI G (fun (r : Int32) (u : Int32 × (Nat → Int32)) => post r u.1 u.2) (fun u : Int32 × (Nat → Int32) => wd_X7_closes G h_this h_top h_colors h_o1 h_o1_operation h_o1_braid h_o1_weights h_o1_operation_products h_o1_operation_quotients h_o1_operation_products_cells h_o1_operation_quotients_cells h_o1_braid_crossings h_o1_weights_values h_o1_weights_values_cells (u.1) a_top (u.2) f_o1_operation_size f_o1_operation_badColumn a_o1_operation_products_cells a_o1_operation_quotients_cells f_o1_braid_strands f_o1_braid_count a_o1_braid_crossings f_o1_weights_modulus a_o1_weights_values_cells) A) args s 0 0 A) (F0 m 92 ls [])) :
    ∀ (fu : Nat) (x2 : Int32), wp_X7_closes_L64 post KL64 f_total a_top a_colors fu x2 → ∀ (H : Heap) (locs : List Loc) (ls : Array Slot), va_P G.1 vwCl (wd_X7_closes G h_this h_top h_colors h_o1 h_o1_operation h_o1_braid h_o1_weights h_o1_operation_products h_o1_operation_quotients h_o1_operation_products_cells h_o1_operation_quotients_cells h_o1_braid_crossings h_o1_weights_values h_o1_weights_values_cells f_total a_top a_colors f_o1_operation_size f_o1_operation_badColumn a_o1_operation_products_cells a_o1_operation_quotients_cells f_o1_braid_strands f_o1_braid_count a_o1_braid_crossings f_o1_weights_modulus a_o1_weights_values_cells) H → va_D A (wd_X7_closes G h_this h_top h_colors h_o1 h_o1_operation h_o1_braid h_o1_weights h_o1_operation_products h_o1_operation_quotients h_o1_operation_products_cells h_o1_operation_quotients_cells h_o1_braid_crossings h_o1_weights_values h_o1_weights_values_cells f_total a_top a_colors f_o1_operation_size f_o1_operation_badColumn a_o1_operation_products_cells a_o1_operation_quotients_cells f_o1_braid_strands f_o1_braid_count a_o1_braid_crossings f_o1_weights_modulus a_o1_weights_values_cells) → va_S A s.heap H locs → lv_has ls 3 [(0, .ref h_this), (2, .int x2)] → W p l e (headSpec wsX7_closes rm_X7_closes).room s m args below meth c H locs 0 0 (MQ below (qn_QI G (fun (r : Int32) (u : Int32 × (Nat → Int32)) => post r u.1 u.2) (fun u : Int32 × (Nat → Int32) => wd_X7_closes G h_this h_top h_colors h_o1 h_o1_operation h_o1_braid h_o1_weights h_o1_operation_products h_o1_operation_quotients h_o1_operation_products_cells h_o1_operation_quotients_cells h_o1_braid_crossings h_o1_weights_values h_o1_weights_values_cells (u.1) a_top (u.2) f_o1_operation_size f_o1_operation_badColumn a_o1_operation_products_cells a_o1_operation_quotients_cells f_o1_braid_strands f_o1_braid_count a_o1_braid_crossings f_o1_weights_modulus a_o1_weights_values_cells) A) args s 0 0 A) (F0 m 64 ls []) := by
  obtain ⟨hx, hb, hml, hown, hts, hr, hlocks⟩ := id C0
  intro fu
  induction fu with
  | zero => intro x2 hw; exact hw.elim
  | succ fu ih =>
    intro x2 hw H locs ls hP hD hS hl
    refine lv_iload_n hx hb dX7_closes_64 rfl (lv_at hl 1 rfl) ?_
    refine lv_iconst (v := 4) hx hb dX7_closes_65 (by decide) ?_
    refine lv_icmp_ge (tgt := 92) hx hb dX7_closes_66 (by decide) (fun c_13 => ?_) (fun c_13 => ?_)
    · have hw := hw.1 c_13
      exact hKc  hw _ _ _ hP hD hS (lv_sub hl [] rfl)
    · have hw := hw.2 c_13
      refine lv_aload_n hx hb dX7_closes_69 rfl (lv_at hl 0 rfl) ?_
      refine va_get (D := G.1) (ci := 7) (v := .ref h_colors) (C := RX7) (T := TX7) (N := 3) hx hb hts in_X7_closes_X7 hown hE.1 hP 0 rfl rfl 1 (by decide) (hts (.fieldLink RX7 15 "QuandleColorings$Tracer" "colors" "[I") lk_X7_closes_15) (fun _ h9 => h9) rfl dX7_closes_70 ?_
      refine lv_iload_n hx hb dX7_closes_73 rfl (lv_at hl 1 rfl) ?_
      have hin := hw.1
      have hw := hw.2
      refine va_iald hx hb hE.1 hP 2 0 rfl rfl hin dX7_closes_74 ?_
      refine lv_aload_n hx hb dX7_closes_75 rfl (lv_at hl 0 rfl) ?_
      refine va_get (D := G.1) (ci := 7) (v := .ref h_top) (C := RX7) (T := TX7) (N := 3) hx hb hts in_X7_closes_X7 hown hE.1 hP 0 rfl rfl 0 (by decide) (hts (.fieldLink RX7 9 "QuandleColorings$Tracer" "top" "[I") lk_X7_closes_9) (fun _ h9 => h9) rfl dX7_closes_76 ?_
      refine lv_iload_n hx hb dX7_closes_79 rfl (lv_at hl 1 rfl) ?_
      have hin := hw.1
      have hw := hw.2
      refine va_iald hx hb hE.1 hP 1 0 rfl rfl hin dX7_closes_80 ?_
      refine lv_icmp_eq (tgt := 86) hx hb dX7_closes_81 (by decide) (fun c_14 => ?_) (fun c_14 => ?_)
      · have hw := hw.1 c_14
        obtain ⟨x2_15, ex2_15⟩ : ∃ y : Int32, y = x2 + 1 := ⟨_, rfl⟩
        have hw := hw x2_15 ex2_15
        refine lv_iinc (v := x2_15) (lv' := [(2, .int x2_15), (0, .ref h_this)]) hx hb dX7_closes_86 hl (k := 1) rfl (by rw [ex2_15]; rfl) (by decide) rfl (fun ls hl => ?_)
        refine lv_goto (tgt := 64) hx hb dX7_closes_89 (by decide) ?_
        exact ih x2_15 hw _ _ _ hP hD hS (lv_sub hl [1, 0] rfl)
      · have hw := hw.2 c_14
        refine lv_iconst (v := 0) hx hb dX7_closes_84 (by decide) ?_
        exact W.zret (v := 0) hx hb hr (by decide) (fun t ht hW => ⟨⟨0, (f_total, a_colors), rfl, hw, by rw [ht]; exact hP, hD⟩, hS.F ht⟩) hS.2.2 dX7_closes_85
set_option maxHeartbeats 4000000 in
set_option maxRecDepth 100000 in
theorem c_X7_closes {l : Launch} (G : qn_G) (sz : Nat) (h_this h_top h_colors h_o1 h_o1_operation h_o1_braid h_o1_weights h_o1_operation_products h_o1_operation_quotients h_o1_operation_products_cells h_o1_operation_quotients_cells h_o1_braid_crossings h_o1_weights_values h_o1_weights_values_cells : Nat) (f_total : Int32) (a_top : Nat → Int32) (a_colors : Nat → Int32) (f_o1_operation_size : Int32) (f_o1_operation_badColumn : Int32) (a_o1_operation_products_cells : Nat → Int32) (a_o1_operation_quotients_cells : Nat → Int32) (f_o1_braid_strands : Int32) (f_o1_braid_count : Int32) (a_o1_braid_crossings : Nat → Int32) (f_o1_weights_modulus : Int32) (a_o1_weights_values_cells : Nat → Int32) {post : Int32 → Int32 → (Nat → Int32) → Prop} (hw : wp_X7_closes post a_top a_colors a_o1_operation_products_cells a_o1_operation_quotients_cells f_o1_braid_count a_o1_braid_crossings f_o1_weights_modulus a_o1_weights_values_cells) : Met l yX7_closes wsX7_closes rm_X7_closes (qn_PC G [.ref h_this, .ref h_o1] sz (wd_X7_closes G h_this h_top h_colors h_o1 h_o1_operation h_o1_braid h_o1_weights h_o1_operation_products h_o1_operation_quotients h_o1_operation_products_cells h_o1_operation_quotients_cells h_o1_braid_crossings h_o1_weights_values h_o1_weights_values_cells f_total a_top a_colors f_o1_operation_size f_o1_operation_badColumn a_o1_operation_products_cells a_o1_operation_quotients_cells f_o1_braid_strands f_o1_braid_count a_o1_braid_crossings f_o1_weights_modulus a_o1_weights_values_cells)) (qn_QI G (fun (r : Int32) (u : Int32 × (Nat → Int32)) => post r u.1 u.2) (fun u : Int32 × (Nat → Int32) => wd_X7_closes G h_this h_top h_colors h_o1 h_o1_operation h_o1_braid h_o1_weights h_o1_operation_products h_o1_operation_quotients h_o1_operation_products_cells h_o1_operation_quotients_cells h_o1_braid_crossings h_o1_weights_values h_o1_weights_values_cells (u.1) a_top (u.2) f_o1_operation_size f_o1_operation_badColumn a_o1_operation_products_cells a_o1_operation_quotients_cells f_o1_braid_strands f_o1_braid_count a_o1_braid_crossings f_o1_weights_modulus a_o1_weights_values_cells) (va_A (wd_X7_closes G h_this h_top h_colors h_o1 h_o1_operation h_o1_braid h_o1_weights h_o1_operation_products h_o1_operation_quotients h_o1_operation_products_cells h_o1_operation_quotients_cells h_o1_braid_crossings h_o1_weights_values h_o1_weights_values_cells f_total a_top a_colors f_o1_operation_size f_o1_operation_badColumn a_o1_operation_products_cells a_o1_operation_quotients_cells f_o1_braid_strands f_o1_braid_count a_o1_braid_crossings f_o1_weights_modulus a_o1_weights_values_cells) sz)) 0 0 (va_A (wd_X7_closes G h_this h_top h_colors h_o1 h_o1_operation h_o1_braid h_o1_weights h_o1_operation_products h_o1_operation_quotients h_o1_operation_products_cells h_o1_operation_quotients_cells h_o1_braid_crossings h_o1_weights_values h_o1_weights_values_cells f_total a_top a_colors f_o1_operation_size f_o1_operation_badColumn a_o1_operation_products_cells a_o1_operation_quotients_cells f_o1_braid_strands f_o1_braid_count a_o1_braid_crossings f_o1_weights_modulus a_o1_weights_values_cells) sz) := by
  refine Met.ofW (cc := cX7_closes) (maxL := 3) (ret := (some .boolean)) (by decide) rfl ?_
  intro p e s m args below meth c s₁ B hml hv
  obtain ⟨rfl, hsz, hP, hE, hD0⟩ := hv
  have C0 : qn_C p m c cX7_closes 3 s _ wsX7_closes RX7 meth (some .boolean) := qn_C0 B hml
  obtain ⟨hx, hb, -, hown, hts, hr, hlocks⟩ := id C0
  subst hsz
  have hD := hD0.self (sz := s.heap.size)
  generalize hAe : va_A (wd_X7_closes G h_this h_top h_colors h_o1 h_o1_operation h_o1_braid h_o1_weights h_o1_operation_products h_o1_operation_quotients h_o1_operation_products_cells h_o1_operation_quotients_cells h_o1_braid_crossings h_o1_weights_values h_o1_weights_values_cells f_total a_top a_colors f_o1_operation_size f_o1_operation_badColumn a_o1_operation_products_cells a_o1_operation_quotients_cells f_o1_braid_strands f_o1_braid_count a_o1_braid_crossings f_o1_weights_modulus a_o1_weights_values_cells) s.heap.size = A at hD ⊢
  have hA : ∀ q : Nat, s.heap.size ≤ q → A q := fun q h => by rw [← hAe]; exact Or.inr h
  clear hAe
  have hS : va_S A s.heap s.heap [] := va_S.rf
  have hl := lv_entry ([.ref h_this, .ref h_o1]) (n := 3) (Nat.le_of_ble_eq_true rfl)
  rw [lg_entry_eq]
  generalize (lg_sl ([.ref h_this, .ref h_o1]) ++ List.replicate (3 - (lg_sl ([.ref h_this, .ref h_o1])).length) Slot.unset).toArray = ls at hl ⊢
  have hl : lv_has ls 3 [(0, .ref h_this), (1, .ref h_o1)] := hl
  have hP : va_P G.1 vwCl (wd_X7_closes G h_this h_top h_colors h_o1 h_o1_operation h_o1_braid h_o1_weights h_o1_operation_products h_o1_operation_quotients h_o1_operation_products_cells h_o1_operation_quotients_cells h_o1_braid_crossings h_o1_weights_values h_o1_weights_values_cells f_total a_top a_colors f_o1_operation_size f_o1_operation_badColumn a_o1_operation_products_cells a_o1_operation_quotients_cells f_o1_braid_strands f_o1_braid_count a_o1_braid_crossings f_o1_weights_modulus a_o1_weights_values_cells) s.heap := hP
  refine lv_iconst (v := 0) hx hb dX7_closes_0 (by decide) ?_
  refine lv_istore_n (lv' := [(2, .int 0), (0, .ref h_this), (1, .ref h_o1)]) hx hb dX7_closes_1 rfl hl (by decide) rfl (fun ls hl => ?_)
  obtain ⟨fu_18, hw⟩ := hw
  refine l_X7_closes_2 (post := post) C0 hE hA (fun a_colors_4 hw H locs ls hP hD hS hl => ?_) fu_18 0 a_colors hw _ _ _ hP hD hS (lv_sub hl [1, 2, 0] rfl)
  refine lv_aload_n hx hb dX7_closes_25 rfl (lv_at hl 0 rfl) ?_
  refine lv_iconst (v := 0) hx hb dX7_closes_26 (by decide) ?_
  refine va_put (D := G.1) (ci := 7) (v := .int 0) (ty := .int) (C := RX7) (T := TX7) (N := 3) hx hb hts in_X7_closes_X7 tyX7 tyX7_ok nmX7 hown hE.1 hP hD hS 0 rfl rfl 2 (by decide) (hts (.fieldLink RX7 18 "QuandleColorings$Tracer" "total" "I") lk_X7_closes_18) (fun _ h9 => h9) rfl (by decide +kernel) rfl rfl (Nat.le_of_ble_eq_true rfl) dX7_closes_27 (fun H locs hP hD hS => ?_)
  have hP : va_P G.1 vwCl (wd_X7_closes G h_this h_top h_colors h_o1 h_o1_operation h_o1_braid h_o1_weights h_o1_operation_products h_o1_operation_quotients h_o1_operation_products_cells h_o1_operation_quotients_cells h_o1_braid_crossings h_o1_weights_values h_o1_weights_values_cells 0 a_top a_colors_4 f_o1_operation_size f_o1_operation_badColumn a_o1_operation_products_cells a_o1_operation_quotients_cells f_o1_braid_strands f_o1_braid_count a_o1_braid_crossings f_o1_weights_modulus a_o1_weights_values_cells) H := hP
  have hD : va_D A (wd_X7_closes G h_this h_top h_colors h_o1 h_o1_operation h_o1_braid h_o1_weights h_o1_operation_products h_o1_operation_quotients h_o1_operation_products_cells h_o1_operation_quotients_cells h_o1_braid_crossings h_o1_weights_values h_o1_weights_values_cells 0 a_top a_colors_4 f_o1_operation_size f_o1_operation_badColumn a_o1_operation_products_cells a_o1_operation_quotients_cells f_o1_braid_strands f_o1_braid_count a_o1_braid_crossings f_o1_weights_modulus a_o1_weights_values_cells) := hD
  refine lv_iconst (v := 0) hx hb dX7_closes_30 (by decide) ?_
  refine lv_istore_n (lv' := [(2, .int 0), (0, .ref h_this), (1, .ref h_o1)]) hx hb dX7_closes_31 rfl hl (by decide) rfl (fun ls hl => ?_)
  obtain ⟨fu_17, hw⟩ := hw
  refine l_X7_closes_32 (post := post) C0 hE hA (fun f_total_11 a_colors_12 hw H locs ls hP hD hS hl => ?_) fu_17 0 0 a_colors_4 hw _ _ _ hP hD hS (lv_sub hl [1, 2, 0] rfl)
  refine lv_iconst (v := 0) hx hb dX7_closes_62 (by decide) ?_
  refine lv_istore_n (lv' := [(2, .int 0), (0, .ref h_this)]) hx hb dX7_closes_63 rfl hl (by decide) rfl (fun ls hl => ?_)
  obtain ⟨fu_16, hw⟩ := hw
  refine l_X7_closes_64 (post := post) C0 hE hA (fun  hw H locs ls hP hD hS hl => ?_) fu_16 0 hw _ _ _ hP hD hS (lv_sub hl [1, 0] rfl)
  refine lv_iconst (v := 1) hx hb dX7_closes_92 (by decide) ?_
  exact W.zret (v := 1) hx hb hr (by decide) (fun t ht hW => ⟨⟨1, (f_total_11, a_colors_12), rfl, hw, by rw [ht]; exact hP, hD⟩, hS.F ht⟩) hS.2.2 dX7_closes_93
-- QuandleColorings$Tracer.advance(LQuandleColorings$State;)V
abbrev rm_X7_advance : Room := { frames := 1, cells := 0, slots := 0, locals := 21 }
abbrev wd_X7_advance (G : qn_G) (h_this h_top h_colors h_o1 h_o1_operation h_o1_braid h_o1_weights h_o1_operation_products h_o1_operation_quotients h_o1_braid_crossings : Nat) (f_total : Int32) (a_top : Nat → Int32) (f_o1_operation_size : Int32) (f_o1_operation_badColumn : Int32) (f_o1_braid_strands : Int32) (f_o1_braid_count : Int32) : va_W := [(h_this, .inr (7, [.ref h_top, .ref h_colors, .int f_total])), (h_top, .inl (G.2.1, 4, .inl a_top)), (h_o1, .inr (6, [.ref h_o1_operation, .ref h_o1_braid, .ref h_o1_weights])), (h_o1_operation, .inr (5, [.int f_o1_operation_size, .ref h_o1_operation_products, .ref h_o1_operation_quotients, .int f_o1_operation_badColumn])), (h_o1_braid, .inr (1, [.int f_o1_braid_strands, .int f_o1_braid_count, .ref h_o1_braid_crossings]))]
theorem in_X7_advance_X1 : ∀ w ∈ u_ws RX1 TX1 3, w ∈ wsX7_advance := by decide +kernel
theorem in_X7_advance_X5 : ∀ w ∈ u_ws RX5 TX5 4, w ∈ wsX7_advance := by decide +kernel
theorem in_X7_advance_X6 : ∀ w ∈ u_ws RX6 TX6 3, w ∈ wsX7_advance := by decide +kernel
theorem in_X7_advance_X7 : ∀ w ∈ u_ws RX7 TX7 3, w ∈ wsX7_advance := by decide +kernel
theorem lk_X7_advance_9 : Cond.fieldLink RX7 9 "QuandleColorings$Tracer" "top" "[I" ∈ wsX7_advance := by decide +kernel
def wp_X7_advance_L14 (post : (Nat → Int32) → Prop) (KL14 : (Nat → Int32) → Prop) (f_o1_operation_size : Int32) : Nat → Int32 → (Nat → Int32) → Prop
  | 0 => fun _ _ => False
  | fu + 1 => fun x2 a_top => ((x2 < 0 → (KL14 a_top)) ∧ (¬ x2 < 0 → (vp_in x2 4 ∧ (vp_in x2 4 ∧ (∀ a_top_4 : Nat → Int32, a_top_4 = upd a_top x2.toNatClampNeg ((a_top x2.toNatClampNeg) + 1) → (vp_in x2 4 ∧ ((f_o1_operation_size ≤ (a_top_4 x2.toNatClampNeg) → (vp_in x2 4 ∧ (∀ a_top_6 : Nat → Int32, a_top_6 = upd a_top_4 x2.toNatClampNeg 0 → (∀ x2_7 : Int32, x2_7 = x2 + (-1) → ((wp_X7_advance_L14 post KL14 f_o1_operation_size fu) x2_7 a_top_6))))) ∧ (¬ f_o1_operation_size ≤ (a_top_4 x2.toNatClampNeg) → (post a_top_4)))))))))
def wp_X7_advance (post : (Nat → Int32) → Prop) (a_top : Nat → Int32) (f_o1_operation_size : Int32) (f_o1_braid_strands : Int32) : Prop := (∀ z_1 : Int32, z_1 = (if 4 < f_o1_braid_strands then 4 else f_o1_braid_strands) → (∀ x2_2 : Int32, x2_2 = z_1 - 1 → (∃ fu_9 : Nat, wp_X7_advance_L14 post (fun (a_top_8 : Nat → Int32) => (post a_top_8)) f_o1_operation_size fu_9 x2_2 a_top)))
set_option maxHeartbeats 4000000 in
set_option maxRecDepth 100000 in
theorem l_X7_advance_14 {p : Program} {l : Launch} {e : Env} {s : State} {m : MethodId} {args : Array Value} {below : List Frame} {meth : Method} {c : Code} {G : qn_G} {A : Nat → Prop} {h_this h_top h_colors h_o1 h_o1_operation h_o1_braid h_o1_weights h_o1_operation_products h_o1_operation_quotients h_o1_braid_crossings : Nat} {f_total : Int32} {f_o1_operation_size : Int32} {f_o1_operation_badColumn : Int32} {f_o1_braid_strands : Int32} {f_o1_braid_count : Int32} {post : (Nat → Int32) → Prop} {KL14 : (Nat → Int32) → Prop} (C0 : qn_C p m c cX7_advance 3 s args wsX7_advance RX7 meth none) (hE : qn_EV G s) (hA : ∀ q, s.heap.size ≤ q → A q) (hKc : ∀ (a_top : Nat → Int32), KL14 a_top → ∀ (H : Heap) (locs : List Loc) (ls : Array Slot), va_P G.1 vwCl (wd_X7_advance G h_this h_top h_colors h_o1 h_o1_operation h_o1_braid h_o1_weights h_o1_operation_products h_o1_operation_quotients h_o1_braid_crossings f_total a_top f_o1_operation_size f_o1_operation_badColumn f_o1_braid_strands f_o1_braid_count) H → va_D A (wd_X7_advance G h_this h_top h_colors h_o1 h_o1_operation h_o1_braid h_o1_weights h_o1_operation_products h_o1_operation_quotients h_o1_braid_crossings f_total a_top f_o1_operation_size f_o1_operation_badColumn f_o1_braid_strands f_o1_braid_count) → va_S A s.heap H locs → lv_has ls 3 [] → W p l e (headSpec wsX7_advance rm_X7_advance).room s m args below meth c H locs 0 0 (MQ below (qn_QV G (fun (u : (Nat → Int32)) => post u) (fun u : (Nat → Int32) => wd_X7_advance G h_this h_top h_colors h_o1 h_o1_operation h_o1_braid h_o1_weights h_o1_operation_products h_o1_operation_quotients h_o1_braid_crossings f_total u f_o1_operation_size f_o1_operation_badColumn f_o1_braid_strands f_o1_braid_count) A) args s 0 0 A) (F0 m 58 ls [])) :
    ∀ (fu : Nat) (x2 : Int32) (a_top : Nat → Int32), wp_X7_advance_L14 post KL14 f_o1_operation_size fu x2 a_top → ∀ (H : Heap) (locs : List Loc) (ls : Array Slot), va_P G.1 vwCl (wd_X7_advance G h_this h_top h_colors h_o1 h_o1_operation h_o1_braid h_o1_weights h_o1_operation_products h_o1_operation_quotients h_o1_braid_crossings f_total a_top f_o1_operation_size f_o1_operation_badColumn f_o1_braid_strands f_o1_braid_count) H → va_D A (wd_X7_advance G h_this h_top h_colors h_o1 h_o1_operation h_o1_braid h_o1_weights h_o1_operation_products h_o1_operation_quotients h_o1_braid_crossings f_total a_top f_o1_operation_size f_o1_operation_badColumn f_o1_braid_strands f_o1_braid_count) → va_S A s.heap H locs → lv_has ls 3 [(0, .ref h_this), (1, .ref h_o1), (2, .int x2)] → W p l e (headSpec wsX7_advance rm_X7_advance).room s m args below meth c H locs 0 0 (MQ below (qn_QV G (fun (u : (Nat → Int32)) => post u) (fun u : (Nat → Int32) => wd_X7_advance G h_this h_top h_colors h_o1 h_o1_operation h_o1_braid h_o1_weights h_o1_operation_products h_o1_operation_quotients h_o1_braid_crossings f_total u f_o1_operation_size f_o1_operation_badColumn f_o1_braid_strands f_o1_braid_count) A) args s 0 0 A) (F0 m 14 ls []) := by
  obtain ⟨hx, hb, hml, hown, hts, hr, hlocks⟩ := id C0
  intro fu
  induction fu with
  | zero => intro x2 a_top hw; exact hw.elim
  | succ fu ih =>
    intro x2 a_top hw H locs ls hP hD hS hl
    refine lv_iload_n hx hb dX7_advance_14 rfl (lv_at hl 2 rfl) ?_
    refine lv_if_lt (tgt := 58) hx hb dX7_advance_15 (by decide) (fun c_3 => ?_) (fun c_3 => ?_)
    · have hw := hw.1 c_3
      exact hKc a_top hw _ _ _ hP hD hS (lv_sub hl [] rfl)
    · have hw := hw.2 c_3
      refine lv_aload_n hx hb dX7_advance_18 rfl (lv_at hl 0 rfl) ?_
      refine va_get (D := G.1) (ci := 7) (v := .ref h_top) (C := RX7) (T := TX7) (N := 3) hx hb hts in_X7_advance_X7 hown hE.1 hP 0 rfl rfl 0 (by decide) (hts (.fieldLink RX7 9 "QuandleColorings$Tracer" "top" "[I") lk_X7_advance_9) (fun _ h9 => h9) rfl dX7_advance_19 ?_
      refine lv_iload_n hx hb dX7_advance_22 rfl (lv_at hl 2 rfl) ?_
      refine lv_dup2_11 hx hb dX7_advance_23 rfl rfl ?_
      have hin := hw.1
      have hw := hw.2
      refine va_iald hx hb hE.1 hP 1 0 rfl rfl hin dX7_advance_24 ?_
      refine lv_iconst (v := 1) hx hb dX7_advance_25 (by decide) ?_
      refine lv_iadd hx hb dX7_advance_26 ?_
      have hin := hw.1
      have hw := hw.2
      obtain ⟨a_top_4, ea_top_4⟩ : ∃ y : Nat → Int32, y = upd a_top x2.toNatClampNeg ((a_top x2.toNatClampNeg) + 1) := ⟨_, rfl⟩
      have hw := hw a_top_4 ea_top_4
      refine va_iast hx hb hE.1 hP hD hS 1 0 rfl rfl hin dX7_advance_27 (fun H locs hP hD hS => ?_)
      rw [← ea_top_4] at hP hD
      have hP : va_P G.1 vwCl (wd_X7_advance G h_this h_top h_colors h_o1 h_o1_operation h_o1_braid h_o1_weights h_o1_operation_products h_o1_operation_quotients h_o1_braid_crossings f_total a_top_4 f_o1_operation_size f_o1_operation_badColumn f_o1_braid_strands f_o1_braid_count) H := hP
      have hD : va_D A (wd_X7_advance G h_this h_top h_colors h_o1 h_o1_operation h_o1_braid h_o1_weights h_o1_operation_products h_o1_operation_quotients h_o1_braid_crossings f_total a_top_4 f_o1_operation_size f_o1_operation_badColumn f_o1_braid_strands f_o1_braid_count) := hD
      refine lv_aload_n hx hb dX7_advance_28 rfl (lv_at hl 0 rfl) ?_
      refine va_get (D := G.1) (ci := 7) (v := .ref h_top) (C := RX7) (T := TX7) (N := 3) hx hb hts in_X7_advance_X7 hown hE.1 hP 0 rfl rfl 0 (by decide) (hts (.fieldLink RX7 9 "QuandleColorings$Tracer" "top" "[I") lk_X7_advance_9) (fun _ h9 => h9) rfl dX7_advance_29 ?_
      refine lv_iload_n hx hb dX7_advance_32 rfl (lv_at hl 2 rfl) ?_
      have hin := hw.1
      have hw := hw.2
      refine va_iald hx hb hE.1 hP 1 0 rfl rfl hin dX7_advance_33 ?_
      refine lv_aload_n hx hb dX7_advance_34 rfl (lv_at hl 1 rfl) ?_
      refine va_getN (D := G.1) (ci := 6) (v := .ref h_o1_operation) (C := RX6) (T := TX6) (N := 3) hx hb hts in_X7_advance_X6 hown hE.1 hP 2 rfl rfl 0 (by decide) (va_Nw.use rfl (qn_f_Tracer_45 hE.2.1)) (fun _ h9 => h9) rfl dX7_advance_35 ?_
      refine va_getN (D := G.1) (ci := 5) (v := .int f_o1_operation_size) (C := RX5) (T := TX5) (N := 4) hx hb hts in_X7_advance_X5 hown hE.1 hP 3 rfl rfl 0 (by decide) (va_Nw.use rfl (qn_f_Tracer_49 hE.2.1)) (fun _ h9 => h9) rfl dX7_advance_38 ?_
      refine lv_icmp_ge (tgt := 45) hx hb dX7_advance_41 (by decide) (fun c_5 => ?_) (fun c_5 => ?_)
      · have hw := hw.1 c_5
        refine lv_aload_n hx hb dX7_advance_45 rfl (lv_at hl 0 rfl) ?_
        refine va_get (D := G.1) (ci := 7) (v := .ref h_top) (C := RX7) (T := TX7) (N := 3) hx hb hts in_X7_advance_X7 hown hE.1 hP 0 rfl rfl 0 (by decide) (hts (.fieldLink RX7 9 "QuandleColorings$Tracer" "top" "[I") lk_X7_advance_9) (fun _ h9 => h9) rfl dX7_advance_46 ?_
        refine lv_iload_n hx hb dX7_advance_49 rfl (lv_at hl 2 rfl) ?_
        refine lv_iconst (v := 0) hx hb dX7_advance_50 (by decide) ?_
        have hin := hw.1
        have hw := hw.2
        obtain ⟨a_top_6, ea_top_6⟩ : ∃ y : Nat → Int32, y = upd a_top_4 x2.toNatClampNeg 0 := ⟨_, rfl⟩
        have hw := hw a_top_6 ea_top_6
        refine va_iast hx hb hE.1 hP hD hS 1 0 rfl rfl hin dX7_advance_51 (fun H locs hP hD hS => ?_)
        rw [← ea_top_6] at hP hD
        have hP : va_P G.1 vwCl (wd_X7_advance G h_this h_top h_colors h_o1 h_o1_operation h_o1_braid h_o1_weights h_o1_operation_products h_o1_operation_quotients h_o1_braid_crossings f_total a_top_6 f_o1_operation_size f_o1_operation_badColumn f_o1_braid_strands f_o1_braid_count) H := hP
        have hD : va_D A (wd_X7_advance G h_this h_top h_colors h_o1 h_o1_operation h_o1_braid h_o1_weights h_o1_operation_products h_o1_operation_quotients h_o1_braid_crossings f_total a_top_6 f_o1_operation_size f_o1_operation_badColumn f_o1_braid_strands f_o1_braid_count) := hD
        obtain ⟨x2_7, ex2_7⟩ : ∃ y : Int32, y = x2 + (-1) := ⟨_, rfl⟩
        have hw := hw x2_7 ex2_7
        refine lv_iinc (v := x2_7) (lv' := [(2, .int x2_7), (0, .ref h_this), (1, .ref h_o1)]) hx hb dX7_advance_52 hl (k := 2) rfl (by rw [ex2_7]; rfl) (by decide) rfl (fun ls hl => ?_)
        refine lv_goto (tgt := 14) hx hb dX7_advance_55 (by decide) ?_
        exact ih x2_7 a_top_6 hw _ _ _ hP hD hS (lv_sub hl [1, 2, 0] rfl)
      · have hw := hw.2 c_5
        exact W.vret hx hb hr (fun t ht hW => ⟨⟨a_top_4, rfl, hw, by rw [ht]; exact hP, hD⟩, hS.F ht⟩) hS.2.2 dX7_advance_44
set_option maxHeartbeats 4000000 in
set_option maxRecDepth 100000 in
theorem c_X7_advance {l : Launch} (G : qn_G) (sz : Nat) (h_this h_top h_colors h_o1 h_o1_operation h_o1_braid h_o1_weights h_o1_operation_products h_o1_operation_quotients h_o1_braid_crossings : Nat) (f_total : Int32) (a_top : Nat → Int32) (f_o1_operation_size : Int32) (f_o1_operation_badColumn : Int32) (f_o1_braid_strands : Int32) (f_o1_braid_count : Int32) {post : (Nat → Int32) → Prop} (hw : wp_X7_advance post a_top f_o1_operation_size f_o1_braid_strands) : Met l yX7_advance wsX7_advance rm_X7_advance (qn_PC G [.ref h_this, .ref h_o1] sz (wd_X7_advance G h_this h_top h_colors h_o1 h_o1_operation h_o1_braid h_o1_weights h_o1_operation_products h_o1_operation_quotients h_o1_braid_crossings f_total a_top f_o1_operation_size f_o1_operation_badColumn f_o1_braid_strands f_o1_braid_count)) (qn_QV G (fun (u : (Nat → Int32)) => post u) (fun u : (Nat → Int32) => wd_X7_advance G h_this h_top h_colors h_o1 h_o1_operation h_o1_braid h_o1_weights h_o1_operation_products h_o1_operation_quotients h_o1_braid_crossings f_total u f_o1_operation_size f_o1_operation_badColumn f_o1_braid_strands f_o1_braid_count) (va_A (wd_X7_advance G h_this h_top h_colors h_o1 h_o1_operation h_o1_braid h_o1_weights h_o1_operation_products h_o1_operation_quotients h_o1_braid_crossings f_total a_top f_o1_operation_size f_o1_operation_badColumn f_o1_braid_strands f_o1_braid_count) sz)) 0 0 (va_A (wd_X7_advance G h_this h_top h_colors h_o1 h_o1_operation h_o1_braid h_o1_weights h_o1_operation_products h_o1_operation_quotients h_o1_braid_crossings f_total a_top f_o1_operation_size f_o1_operation_badColumn f_o1_braid_strands f_o1_braid_count) sz) := by
  refine Met.ofW (cc := cX7_advance) (maxL := 3) (ret := none) (by decide) rfl ?_
  intro p e s m args below meth c s₁ B hml hv
  obtain ⟨rfl, hsz, hP, hE, hD0⟩ := hv
  have C0 : qn_C p m c cX7_advance 3 s _ wsX7_advance RX7 meth none := qn_C0 B hml
  obtain ⟨hx, hb, -, hown, hts, hr, hlocks⟩ := id C0
  subst hsz
  have hD := hD0.self (sz := s.heap.size)
  generalize hAe : va_A (wd_X7_advance G h_this h_top h_colors h_o1 h_o1_operation h_o1_braid h_o1_weights h_o1_operation_products h_o1_operation_quotients h_o1_braid_crossings f_total a_top f_o1_operation_size f_o1_operation_badColumn f_o1_braid_strands f_o1_braid_count) s.heap.size = A at hD ⊢
  have hA : ∀ q : Nat, s.heap.size ≤ q → A q := fun q h => by rw [← hAe]; exact Or.inr h
  clear hAe
  have hS : va_S A s.heap s.heap [] := va_S.rf
  have hl := lv_entry ([.ref h_this, .ref h_o1]) (n := 3) (Nat.le_of_ble_eq_true rfl)
  rw [lg_entry_eq]
  generalize (lg_sl ([.ref h_this, .ref h_o1]) ++ List.replicate (3 - (lg_sl ([.ref h_this, .ref h_o1])).length) Slot.unset).toArray = ls at hl ⊢
  have hl : lv_has ls 3 [(0, .ref h_this), (1, .ref h_o1)] := hl
  have hP : va_P G.1 vwCl (wd_X7_advance G h_this h_top h_colors h_o1 h_o1_operation h_o1_braid h_o1_weights h_o1_operation_products h_o1_operation_quotients h_o1_braid_crossings f_total a_top f_o1_operation_size f_o1_operation_badColumn f_o1_braid_strands f_o1_braid_count) s.heap := hP
  refine lv_aload_n hx hb dX7_advance_0 rfl (lv_at hl 1 rfl) ?_
  refine va_getN (D := G.1) (ci := 6) (v := .ref h_o1_braid) (C := RX6) (T := TX6) (N := 3) hx hb hts in_X7_advance_X6 hown hE.1 hP 2 rfl rfl 1 (by decide) (va_Nw.use rfl (qn_f_Tracer_34 hE.2.1)) (fun _ h9 => h9) rfl dX7_advance_1 ?_
  refine va_getN (D := G.1) (ci := 1) (v := .int f_o1_braid_strands) (C := RX1) (T := TX1) (N := 3) hx hb hts in_X7_advance_X1 hown hE.1 hP 4 rfl rfl 0 (by decide) (va_Nw.use rfl (qn_f_Tracer_40 hE.2.1)) (fun _ h9 => h9) rfl dX7_advance_4 ?_
  refine lv_iconst (v := 4) hx hb dX7_advance_7 (by decide) ?_
  refine va_mmin hx hb (by rw [hml]; exact hl.1.symm) hown (hts (.methodLink RX7 54 Lib.Math.min.name) (by decide +kernel)) (hts (.static Lib.Math.min.name) (by decide +kernel)) (hts (.initialized "java/lang/Math") (by decide +kernel)) (hts (.code Lib.Math.min.name Lib.Math.min.code 2 (some .int)) (List.mem_of_getElem? (i := 4) rfl)) (Nat.le_of_ble_eq_true rfl) (Nat.le_of_ble_eq_true rfl) (Nat.zero_le _) (Nat.zero_le _) dX7_advance_8 ?_
  refine lv_topi (fun z_1 ez_1 => ?_)
  have hw := hw z_1 ez_1
  refine lv_iconst (v := 1) hx hb dX7_advance_11 (by decide) ?_
  refine lv_isub hx hb dX7_advance_12 ?_
  refine lv_topi (fun x2_2 ex2_2 => ?_)
  have hw := hw x2_2 ex2_2
  refine lv_istore_n (lv' := [(2, .int x2_2), (0, .ref h_this), (1, .ref h_o1)]) hx hb dX7_advance_13 rfl hl (by decide) rfl (fun ls hl => ?_)
  obtain ⟨fu_9, hw⟩ := hw
  refine l_X7_advance_14 (post := post) C0 hE hA (fun a_top_8 hw H locs ls hP hD hS hl => ?_) fu_9 x2_2 a_top hw _ _ _ hP hD hS (lv_sub hl [1, 2, 0] rfl)
  exact W.vret hx hb hr (fun t ht hW => ⟨⟨a_top_8, rfl, hw, by rw [ht]; exact hP, hD⟩, hS.F ht⟩) hS.2.2 dX7_advance_58
-- QuandleColorings$Tracer.countAll(LQuandleColorings$State;)I
abbrev rm_X7_countAll : Room := { frames := 5, cells := 0, slots := 0, locals := 113 }
abbrev wd_X7_countAll (G : qn_G) (h_this h_top h_colors h_o1 h_o1_operation h_o1_braid h_o1_weights h_o1_operation_products h_o1_operation_quotients h_o1_operation_products_cells h_o1_operation_quotients_cells h_o1_braid_crossings h_o1_weights_values h_o1_weights_values_cells : Nat) (f_total : Int32) (a_top : Nat → Int32) (a_colors : Nat → Int32) (f_o1_operation_size : Int32) (f_o1_operation_badColumn : Int32) (a_o1_operation_products_cells : Nat → Int32) (a_o1_operation_quotients_cells : Nat → Int32) (f_o1_braid_strands : Int32) (f_o1_braid_count : Int32) (a_o1_braid_crossings : Nat → Int32) (f_o1_weights_modulus : Int32) (a_o1_weights_values_cells : Nat → Int32) : va_W := [(h_this, .inr (7, [.ref h_top, .ref h_colors, .int f_total])), (h_top, .inl (G.2.1, 4, .inl a_top)), (h_colors, .inl (G.2.1, 4, .inl a_colors)), (h_o1, .inr (6, [.ref h_o1_operation, .ref h_o1_braid, .ref h_o1_weights])), (h_o1_operation, .inr (5, [.int f_o1_operation_size, .ref h_o1_operation_products, .ref h_o1_operation_quotients, .int f_o1_operation_badColumn])), (h_o1_operation_products, .inr (2, [.ref h_o1_operation_products_cells])), (h_o1_operation_products_cells, .inl (G.2.1, 36, .inl a_o1_operation_products_cells)), (h_o1_operation_quotients, .inr (2, [.ref h_o1_operation_quotients_cells])), (h_o1_operation_quotients_cells, .inl (G.2.1, 36, .inl a_o1_operation_quotients_cells)), (h_o1_braid, .inr (1, [.int f_o1_braid_strands, .int f_o1_braid_count, .ref h_o1_braid_crossings])), (h_o1_braid_crossings, .inl (G.2.1, 12, .inl a_o1_braid_crossings)), (h_o1_weights, .inr (8, [.int f_o1_weights_modulus, .ref h_o1_weights_values])), (h_o1_weights_values, .inr (2, [.ref h_o1_weights_values_cells])), (h_o1_weights_values_cells, .inl (G.2.1, 36, .inl a_o1_weights_values_cells))]
def wp_X7_countAll_J28 (BL11 : Int32 → Int32 → Int32 → (Nat → Int32) → (Nat → Int32) → Prop) (x3 : Int32) (x4 : Int32) (f_total : Int32) (a_top : Nat → Int32) (a_colors : Nat → Int32) (f_o1_operation_size : Int32) (f_o1_braid_strands : Int32) : Prop := (wp_X7_advance (fun (a_top_9 : Nat → Int32) => (∀ x4_10 : Int32, x4_10 = x4 + 1 → (BL11 x3 x4_10 f_total a_top_9 a_colors))) a_top f_o1_operation_size f_o1_braid_strands)
def wp_X7_countAll_L11 (KL11 : Int32 → Int32 → (Nat → Int32) → (Nat → Int32) → Prop) (x2 : Int32) (f_o1_operation_size : Int32) (a_o1_operation_products_cells : Nat → Int32) (a_o1_operation_quotients_cells : Nat → Int32) (f_o1_braid_strands : Int32) (f_o1_braid_count : Int32) (a_o1_braid_crossings : Nat → Int32) (f_o1_weights_modulus : Int32) (a_o1_weights_values_cells : Nat → Int32) : Nat → Int32 → Int32 → Int32 → (Nat → Int32) → (Nat → Int32) → Prop
  | 0 => fun _ _ _ _ _ => False
  | fu + 1 => fun x3 x4 f_total a_top a_colors => ((x2 ≤ x4 → (KL11 x3 f_total a_top a_colors)) ∧ (¬ x2 ≤ x4 → (wp_X7_closes (fun (r_6 : Int32) (f_total_4 : Int32) (a_colors_5 : Nat → Int32) => ((r_6 = 0 → (wp_X7_countAll_J28 (wp_X7_countAll_L11 KL11 x2 f_o1_operation_size a_o1_operation_products_cells a_o1_operation_quotients_cells f_o1_braid_strands f_o1_braid_count a_o1_braid_crossings f_o1_weights_modulus a_o1_weights_values_cells fu) x3 x4 f_total_4 a_top a_colors_5 f_o1_operation_size f_o1_braid_strands)) ∧ (¬ r_6 = 0 → (∀ x3_13 : Int32, x3_13 = x3 + 1 → (wp_X7_countAll_J28 (wp_X7_countAll_L11 KL11 x2 f_o1_operation_size a_o1_operation_products_cells a_o1_operation_quotients_cells f_o1_braid_strands f_o1_braid_count a_o1_braid_crossings f_o1_weights_modulus a_o1_weights_values_cells fu) x3_13 x4 f_total_4 a_top a_colors_5 f_o1_operation_size f_o1_braid_strands))))) a_top a_colors a_o1_operation_products_cells a_o1_operation_quotients_cells f_o1_braid_count a_o1_braid_crossings f_o1_weights_modulus a_o1_weights_values_cells)))
def wp_X7_countAll (post : Int32 → Int32 → (Nat → Int32) → (Nat → Int32) → Prop) (f_total : Int32) (a_top : Nat → Int32) (a_colors : Nat → Int32) (f_o1_operation_size : Int32) (a_o1_operation_products_cells : Nat → Int32) (a_o1_operation_quotients_cells : Nat → Int32) (f_o1_braid_strands : Int32) (f_o1_braid_count : Int32) (a_o1_braid_crossings : Nat → Int32) (f_o1_weights_modulus : Int32) (a_o1_weights_values_cells : Nat → Int32) : Prop := (wp_X7_startAtFirst (fun (r_2 : Int32) (a_top_1 : Nat → Int32) => (∃ fu_20 : Nat, wp_X7_countAll_L11 (fun (x3_16 : Int32) (f_total_17 : Int32) (a_top_18 : Nat → Int32) (a_colors_19 : Nat → Int32) => (post x3_16 f_total_17 a_top_18 a_colors_19)) r_2 f_o1_operation_size a_o1_operation_products_cells a_o1_operation_quotients_cells f_o1_braid_strands f_o1_braid_count a_o1_braid_crossings f_o1_weights_modulus a_o1_weights_values_cells fu_20 0 0 f_total a_top_1 a_colors)) a_top f_o1_operation_size f_o1_braid_strands)
set_option maxHeartbeats 4000000 in
set_option maxRecDepth 100000 in
theorem l_X7_countAll_11 {p : Program} {l : Launch} {e : Env} {s : State} {m : MethodId} {args : Array Value} {below : List Frame} {meth : Method} {c : Code} {G : qn_G} {A : Nat → Prop} {h_this h_top h_colors h_o1 h_o1_operation h_o1_braid h_o1_weights h_o1_operation_products h_o1_operation_quotients h_o1_operation_products_cells h_o1_operation_quotients_cells h_o1_braid_crossings h_o1_weights_values h_o1_weights_values_cells : Nat} {f_o1_operation_size : Int32} {f_o1_operation_badColumn : Int32} {a_o1_operation_products_cells : Nat → Int32} {a_o1_operation_quotients_cells : Nat → Int32} {f_o1_braid_strands : Int32} {f_o1_braid_count : Int32} {a_o1_braid_crossings : Nat → Int32} {f_o1_weights_modulus : Int32} {a_o1_weights_values_cells : Nat → Int32} {x2 : Int32} {post : Int32 → Int32 → (Nat → Int32) → (Nat → Int32) → Prop} {KL11 : Int32 → Int32 → (Nat → Int32) → (Nat → Int32) → Prop} (C0 : qn_C p m c cX7_countAll 5 s args wsX7_countAll RX7 meth (some .int)) (hE : qn_EV G s) (hA : ∀ q, s.heap.size ≤ q → A q) (hKc : ∀ (x3 : Int32) (f_total : Int32) (a_top : Nat → Int32) (a_colors : Nat → Int32), KL11 x3 f_total a_top a_colors → ∀ (H : Heap) (locs : List Loc) (ls : Array Slot), va_P G.1 vwCl (wd_X7_countAll G h_this h_top h_colors h_o1 h_o1_operation h_o1_braid h_o1_weights h_o1_operation_products h_o1_operation_quotients h_o1_operation_products_cells h_o1_operation_quotients_cells h_o1_braid_crossings h_o1_weights_values h_o1_weights_values_cells f_total a_top a_colors f_o1_operation_size f_o1_operation_badColumn a_o1_operation_products_cells a_o1_operation_quotients_cells f_o1_braid_strands f_o1_braid_count a_o1_braid_crossings f_o1_weights_modulus a_o1_weights_values_cells) H → va_D A (wd_X7_countAll G h_this h_top h_colors h_o1 h_o1_operation h_o1_braid h_o1_weights h_o1_operation_products h_o1_operation_quotients h_o1_operation_products_cells h_o1_operation_quotients_cells h_o1_braid_crossings h_o1_weights_values h_o1_weights_values_cells f_total a_top a_colors f_o1_operation_size f_o1_operation_badColumn a_o1_operation_products_cells a_o1_operation_quotients_cells f_o1_braid_strands f_o1_braid_count a_o1_braid_crossings f_o1_weights_modulus a_o1_weights_values_cells) → va_S A s.heap H locs → lv_has ls 5 [(3, .int x3)] → W p l e (headSpec wsX7_countAll rm_X7_countAll).room s m args below meth c H locs 0 0 (MQ below (qn_QI G (fun (r : Int32) (u : Int32 × (Nat → Int32) × (Nat → Int32)) => post r u.1 u.2.1 u.2.2) (fun u : Int32 × (Nat → Int32) × (Nat → Int32) => wd_X7_countAll G h_this h_top h_colors h_o1 h_o1_operation h_o1_braid h_o1_weights h_o1_operation_products h_o1_operation_quotients h_o1_operation_products_cells h_o1_operation_quotients_cells h_o1_braid_crossings h_o1_weights_values h_o1_weights_values_cells (u.1) (u.2.1) (u.2.2) f_o1_operation_size f_o1_operation_badColumn a_o1_operation_products_cells a_o1_operation_quotients_cells f_o1_braid_strands f_o1_braid_count a_o1_braid_crossings f_o1_weights_modulus a_o1_weights_values_cells) A) args s 0 0 A) (F0 m 39 ls [])) :
    ∀ (fu : Nat) (x3 : Int32) (x4 : Int32) (f_total : Int32) (a_top : Nat → Int32) (a_colors : Nat → Int32), wp_X7_countAll_L11 KL11 x2 f_o1_operation_size a_o1_operation_products_cells a_o1_operation_quotients_cells f_o1_braid_strands f_o1_braid_count a_o1_braid_crossings f_o1_weights_modulus a_o1_weights_values_cells fu x3 x4 f_total a_top a_colors → ∀ (H : Heap) (locs : List Loc) (ls : Array Slot), va_P G.1 vwCl (wd_X7_countAll G h_this h_top h_colors h_o1 h_o1_operation h_o1_braid h_o1_weights h_o1_operation_products h_o1_operation_quotients h_o1_operation_products_cells h_o1_operation_quotients_cells h_o1_braid_crossings h_o1_weights_values h_o1_weights_values_cells f_total a_top a_colors f_o1_operation_size f_o1_operation_badColumn a_o1_operation_products_cells a_o1_operation_quotients_cells f_o1_braid_strands f_o1_braid_count a_o1_braid_crossings f_o1_weights_modulus a_o1_weights_values_cells) H → va_D A (wd_X7_countAll G h_this h_top h_colors h_o1 h_o1_operation h_o1_braid h_o1_weights h_o1_operation_products h_o1_operation_quotients h_o1_operation_products_cells h_o1_operation_quotients_cells h_o1_braid_crossings h_o1_weights_values h_o1_weights_values_cells f_total a_top a_colors f_o1_operation_size f_o1_operation_badColumn a_o1_operation_products_cells a_o1_operation_quotients_cells f_o1_braid_strands f_o1_braid_count a_o1_braid_crossings f_o1_weights_modulus a_o1_weights_values_cells) → va_S A s.heap H locs → lv_has ls 5 [(0, .ref h_this), (1, .ref h_o1), (2, .int x2), (3, .int x3), (4, .int x4)] → W p l e (headSpec wsX7_countAll rm_X7_countAll).room s m args below meth c H locs 0 0 (MQ below (qn_QI G (fun (r : Int32) (u : Int32 × (Nat → Int32) × (Nat → Int32)) => post r u.1 u.2.1 u.2.2) (fun u : Int32 × (Nat → Int32) × (Nat → Int32) => wd_X7_countAll G h_this h_top h_colors h_o1 h_o1_operation h_o1_braid h_o1_weights h_o1_operation_products h_o1_operation_quotients h_o1_operation_products_cells h_o1_operation_quotients_cells h_o1_braid_crossings h_o1_weights_values h_o1_weights_values_cells (u.1) (u.2.1) (u.2.2) f_o1_operation_size f_o1_operation_badColumn a_o1_operation_products_cells a_o1_operation_quotients_cells f_o1_braid_strands f_o1_braid_count a_o1_braid_crossings f_o1_weights_modulus a_o1_weights_values_cells) A) args s 0 0 A) (F0 m 11 ls []) := by
  obtain ⟨hx, hb, hml, hown, hts, hr, hlocks⟩ := id C0
  intro fu
  induction fu with
  | zero => intro x3 x4 f_total a_top a_colors hw; exact hw.elim
  | succ fu ih =>
    intro x3 x4 f_total a_top a_colors hw H locs ls hP hD hS hl
    refine lv_iload hx hb dX7_countAll_11 (lv_at hl 4 rfl) ?_
    refine lv_iload_n hx hb dX7_countAll_13 rfl (lv_at hl 2 rfl) ?_
    refine lv_icmp_ge (tgt := 39) hx hb dX7_countAll_14 (by decide) (fun c_3 => ?_) (fun c_3 => ?_)
    · have hw := hw.1 c_3
      exact hKc x3 f_total a_top a_colors hw _ _ _ hP hD hS (lv_sub hl [3] rfl)
    · have hw := hw.2 c_3
      refine lv_aload_n hx hb dX7_countAll_17 rfl (lv_at hl 0 rfl) ?_
      refine lv_aload_n hx hb dX7_countAll_18 rfl (lv_at hl 1 rfl) ?_
      have hC9 : ([0, 1, 2, 3, 4, 5, 6, 7, 8, 9, 10, 11, 12, 13]).map (fun i => (wd_X7_countAll G h_this h_top h_colors h_o1 h_o1_operation h_o1_braid h_o1_weights h_o1_operation_products h_o1_operation_quotients h_o1_operation_products_cells h_o1_operation_quotients_cells h_o1_braid_crossings h_o1_weights_values h_o1_weights_values_cells f_total a_top a_colors f_o1_operation_size f_o1_operation_badColumn a_o1_operation_products_cells a_o1_operation_quotients_cells f_o1_braid_strands f_o1_braid_count a_o1_braid_crossings f_o1_weights_modulus a_o1_weights_values_cells)[i]?) = (wd_X7_closes G h_this h_top h_colors h_o1 h_o1_operation h_o1_braid h_o1_weights h_o1_operation_products h_o1_operation_quotients h_o1_operation_products_cells h_o1_operation_quotients_cells h_o1_braid_crossings h_o1_weights_values h_o1_weights_values_cells f_total a_top a_colors f_o1_operation_size f_o1_operation_badColumn a_o1_operation_products_cells a_o1_operation_quotients_cells f_o1_braid_strands f_o1_braid_count a_o1_braid_crossings f_o1_weights_modulus a_o1_weights_values_cells).map some := rfl
      refine qn_callI (wd := (fun u : Int32 × (Nat → Int32) => wd_X7_countAll G h_this h_top h_colors h_o1 h_o1_operation h_o1_braid h_o1_weights h_o1_operation_products h_o1_operation_quotients h_o1_operation_products_cells h_o1_operation_quotients_cells h_o1_braid_crossings h_o1_weights_values h_o1_weights_values_cells (u.1) a_top (u.2) f_o1_operation_size f_o1_operation_badColumn a_o1_operation_products_cells a_o1_operation_quotients_cells f_o1_braid_strands f_o1_braid_count a_o1_braid_crossings f_o1_weights_modulus a_o1_weights_values_cells)) [0, 1, 2, 3, 4, 5, 6, 7, 8, 9, 10, 11, 12, 13] (va_runV (As := [.ref h_o1]) (rest := []) ⟨hx, hb, hml, hown, hts⟩ (c_X7_closes G _ h_this h_top h_colors h_o1 h_o1_operation h_o1_braid h_o1_weights h_o1_operation_products h_o1_operation_quotients h_o1_operation_products_cells h_o1_operation_quotients_cells h_o1_braid_crossings h_o1_weights_values h_o1_weights_values_cells f_total a_top a_colors f_o1_operation_size f_o1_operation_badColumn a_o1_operation_products_cells a_o1_operation_quotients_cells f_o1_braid_strands f_o1_braid_count a_o1_braid_crossings f_o1_weights_modulus a_o1_weights_values_cells hw) (cwV 1 hts gX7_countAll_X7_closes rfl rfl rfl (by decide +kernel) ⟨Nat.le_of_ble_eq_true rfl, Nat.le_of_ble_eq_true rfl⟩) (qn_preV hE hP hD [0, 1, 2, 3, 4, 5, 6, 7, 8, 9, 10, 11, 12, 13] hC9 (by decide +kernel) (ci := 7) rfl rfl) rfl rfl hl.1 rfl (lv_room (Nat.le_of_ble_eq_true rfl)) dX7_countAll_19 ⟨Nat.le_of_ble_eq_true rfl, Nat.le_of_ble_eq_true rfl⟩) hP hD hS hA hC9 [some 0, some 1, some 2, some 3, some 4, some 5, some 6, some 7, some 8, some 9, some 10, some 11, some 12, some 13] (M := 14) rfl (by decide +kernel) (fun _ => rfl) (fun _ => rfl) (fun r_6 u_7 H locs hw hP hD hS => ?_)
      obtain ⟨f_total_4, a_colors_5⟩ := u_7
      try dsimp only at hw
      have hP : va_P G.1 vwCl (wd_X7_countAll G h_this h_top h_colors h_o1 h_o1_operation h_o1_braid h_o1_weights h_o1_operation_products h_o1_operation_quotients h_o1_operation_products_cells h_o1_operation_quotients_cells h_o1_braid_crossings h_o1_weights_values h_o1_weights_values_cells f_total_4 a_top a_colors_5 f_o1_operation_size f_o1_operation_badColumn a_o1_operation_products_cells a_o1_operation_quotients_cells f_o1_braid_strands f_o1_braid_count a_o1_braid_crossings f_o1_weights_modulus a_o1_weights_values_cells) H := hP
      have hD : va_D A (wd_X7_countAll G h_this h_top h_colors h_o1 h_o1_operation h_o1_braid h_o1_weights h_o1_operation_products h_o1_operation_quotients h_o1_operation_products_cells h_o1_operation_quotients_cells h_o1_braid_crossings h_o1_weights_values h_o1_weights_values_cells f_total_4 a_top a_colors_5 f_o1_operation_size f_o1_operation_badColumn a_o1_operation_products_cells a_o1_operation_quotients_cells f_o1_braid_strands f_o1_braid_count a_o1_braid_crossings f_o1_weights_modulus a_o1_weights_values_cells) := hD
      refine lv_if_eq (tgt := 28) hx hb dX7_countAll_22 (by decide) (fun c_8 => ?_) (fun c_8 => ?_)
      · have hw := hw.1 c_8
        refine lv_aload_n hx hb dX7_countAll_28 rfl (lv_at hl 0 rfl) ?_
        refine lv_aload_n hx hb dX7_countAll_29 rfl (lv_at hl 1 rfl) ?_
        have hC9 : ([0, 1, 3, 4, 9]).map (fun i => (wd_X7_countAll G h_this h_top h_colors h_o1 h_o1_operation h_o1_braid h_o1_weights h_o1_operation_products h_o1_operation_quotients h_o1_operation_products_cells h_o1_operation_quotients_cells h_o1_braid_crossings h_o1_weights_values h_o1_weights_values_cells f_total_4 a_top a_colors_5 f_o1_operation_size f_o1_operation_badColumn a_o1_operation_products_cells a_o1_operation_quotients_cells f_o1_braid_strands f_o1_braid_count a_o1_braid_crossings f_o1_weights_modulus a_o1_weights_values_cells)[i]?) = (wd_X7_advance G h_this h_top h_colors h_o1 h_o1_operation h_o1_braid h_o1_weights h_o1_operation_products h_o1_operation_quotients h_o1_braid_crossings f_total_4 a_top f_o1_operation_size f_o1_operation_badColumn f_o1_braid_strands f_o1_braid_count).map some := rfl
        refine qn_callV (wd := (fun u : (Nat → Int32) => wd_X7_countAll G h_this h_top h_colors h_o1 h_o1_operation h_o1_braid h_o1_weights h_o1_operation_products h_o1_operation_quotients h_o1_operation_products_cells h_o1_operation_quotients_cells h_o1_braid_crossings h_o1_weights_values h_o1_weights_values_cells f_total_4 u a_colors_5 f_o1_operation_size f_o1_operation_badColumn a_o1_operation_products_cells a_o1_operation_quotients_cells f_o1_braid_strands f_o1_braid_count a_o1_braid_crossings f_o1_weights_modulus a_o1_weights_values_cells)) [0, 1, 3, 4, 9] (va_runV (As := [.ref h_o1]) (rest := []) ⟨hx, hb, hml, hown, hts⟩ (c_X7_advance G _ h_this h_top h_colors h_o1 h_o1_operation h_o1_braid h_o1_weights h_o1_operation_products h_o1_operation_quotients h_o1_braid_crossings f_total_4 a_top f_o1_operation_size f_o1_operation_badColumn f_o1_braid_strands f_o1_braid_count hw) (cwV 1 hts gX7_countAll_X7_advance rfl rfl rfl (by decide +kernel) ⟨Nat.le_of_ble_eq_true rfl, Nat.le_of_ble_eq_true rfl⟩) (qn_preV hE hP hD [0, 1, 3, 4, 9] hC9 (by decide +kernel) (ci := 7) rfl rfl) rfl rfl hl.1 rfl (lv_room (Nat.le_of_ble_eq_true rfl)) dX7_countAll_30 ⟨Nat.le_of_ble_eq_true rfl, Nat.le_of_ble_eq_true rfl⟩) hP hD hS hA hC9 [some 0, some 1, none, some 2, some 3, none, none, none, none, some 4, none, none, none, none] (M := 14) rfl (by decide +kernel) (fun _ => rfl) (fun _ => rfl) (fun a_top_11 H locs hw hP hD hS => ?_)
        try dsimp only at hw
        have hP : va_P G.1 vwCl (wd_X7_countAll G h_this h_top h_colors h_o1 h_o1_operation h_o1_braid h_o1_weights h_o1_operation_products h_o1_operation_quotients h_o1_operation_products_cells h_o1_operation_quotients_cells h_o1_braid_crossings h_o1_weights_values h_o1_weights_values_cells f_total_4 a_top_11 a_colors_5 f_o1_operation_size f_o1_operation_badColumn a_o1_operation_products_cells a_o1_operation_quotients_cells f_o1_braid_strands f_o1_braid_count a_o1_braid_crossings f_o1_weights_modulus a_o1_weights_values_cells) H := hP
        have hD : va_D A (wd_X7_countAll G h_this h_top h_colors h_o1 h_o1_operation h_o1_braid h_o1_weights h_o1_operation_products h_o1_operation_quotients h_o1_operation_products_cells h_o1_operation_quotients_cells h_o1_braid_crossings h_o1_weights_values h_o1_weights_values_cells f_total_4 a_top_11 a_colors_5 f_o1_operation_size f_o1_operation_badColumn a_o1_operation_products_cells a_o1_operation_quotients_cells f_o1_braid_strands f_o1_braid_count a_o1_braid_crossings f_o1_weights_modulus a_o1_weights_values_cells) := hD
        obtain ⟨x4_12, ex4_12⟩ : ∃ y : Int32, y = x4 + 1 := ⟨_, rfl⟩
        have hw := hw x4_12 ex4_12
        refine lv_iinc (v := x4_12) (lv' := [(4, .int x4_12), (0, .ref h_this), (1, .ref h_o1), (2, .int x2), (3, .int x3)]) hx hb dX7_countAll_33 hl (k := 4) rfl (by rw [ex4_12]; rfl) (by decide) rfl (fun ls hl => ?_)
        refine lv_goto (tgt := 11) hx hb dX7_countAll_36 (by decide) ?_
        exact ih x3 x4_12 f_total_4 a_top_11 a_colors_5 hw _ _ _ hP hD hS (lv_sub hl [1, 2, 3, 4, 0] rfl)
      · have hw := hw.2 c_8
        obtain ⟨x3_13, ex3_13⟩ : ∃ y : Int32, y = x3 + 1 := ⟨_, rfl⟩
        have hw := hw x3_13 ex3_13
        refine lv_iinc (v := x3_13) (lv' := [(3, .int x3_13), (0, .ref h_this), (1, .ref h_o1), (2, .int x2), (4, .int x4)]) hx hb dX7_countAll_25 hl (k := 3) rfl (by rw [ex3_13]; rfl) (by decide) rfl (fun ls hl => ?_)
        refine lv_aload_n hx hb dX7_countAll_28 rfl (lv_at hl 1 rfl) ?_
        refine lv_aload_n hx hb dX7_countAll_29 rfl (lv_at hl 2 rfl) ?_
        have hC9 : ([0, 1, 3, 4, 9]).map (fun i => (wd_X7_countAll G h_this h_top h_colors h_o1 h_o1_operation h_o1_braid h_o1_weights h_o1_operation_products h_o1_operation_quotients h_o1_operation_products_cells h_o1_operation_quotients_cells h_o1_braid_crossings h_o1_weights_values h_o1_weights_values_cells f_total_4 a_top a_colors_5 f_o1_operation_size f_o1_operation_badColumn a_o1_operation_products_cells a_o1_operation_quotients_cells f_o1_braid_strands f_o1_braid_count a_o1_braid_crossings f_o1_weights_modulus a_o1_weights_values_cells)[i]?) = (wd_X7_advance G h_this h_top h_colors h_o1 h_o1_operation h_o1_braid h_o1_weights h_o1_operation_products h_o1_operation_quotients h_o1_braid_crossings f_total_4 a_top f_o1_operation_size f_o1_operation_badColumn f_o1_braid_strands f_o1_braid_count).map some := rfl
        refine qn_callV (wd := (fun u : (Nat → Int32) => wd_X7_countAll G h_this h_top h_colors h_o1 h_o1_operation h_o1_braid h_o1_weights h_o1_operation_products h_o1_operation_quotients h_o1_operation_products_cells h_o1_operation_quotients_cells h_o1_braid_crossings h_o1_weights_values h_o1_weights_values_cells f_total_4 u a_colors_5 f_o1_operation_size f_o1_operation_badColumn a_o1_operation_products_cells a_o1_operation_quotients_cells f_o1_braid_strands f_o1_braid_count a_o1_braid_crossings f_o1_weights_modulus a_o1_weights_values_cells)) [0, 1, 3, 4, 9] (va_runV (As := [.ref h_o1]) (rest := []) ⟨hx, hb, hml, hown, hts⟩ (c_X7_advance G _ h_this h_top h_colors h_o1 h_o1_operation h_o1_braid h_o1_weights h_o1_operation_products h_o1_operation_quotients h_o1_braid_crossings f_total_4 a_top f_o1_operation_size f_o1_operation_badColumn f_o1_braid_strands f_o1_braid_count hw) (cwV 1 hts gX7_countAll_X7_advance rfl rfl rfl (by decide +kernel) ⟨Nat.le_of_ble_eq_true rfl, Nat.le_of_ble_eq_true rfl⟩) (qn_preV hE hP hD [0, 1, 3, 4, 9] hC9 (by decide +kernel) (ci := 7) rfl rfl) rfl rfl hl.1 rfl (lv_room (Nat.le_of_ble_eq_true rfl)) dX7_countAll_30 ⟨Nat.le_of_ble_eq_true rfl, Nat.le_of_ble_eq_true rfl⟩) hP hD hS hA hC9 [some 0, some 1, none, some 2, some 3, none, none, none, none, some 4, none, none, none, none] (M := 14) rfl (by decide +kernel) (fun _ => rfl) (fun _ => rfl) (fun a_top_14 H locs hw hP hD hS => ?_)
        try dsimp only at hw
        have hP : va_P G.1 vwCl (wd_X7_countAll G h_this h_top h_colors h_o1 h_o1_operation h_o1_braid h_o1_weights h_o1_operation_products h_o1_operation_quotients h_o1_operation_products_cells h_o1_operation_quotients_cells h_o1_braid_crossings h_o1_weights_values h_o1_weights_values_cells f_total_4 a_top_14 a_colors_5 f_o1_operation_size f_o1_operation_badColumn a_o1_operation_products_cells a_o1_operation_quotients_cells f_o1_braid_strands f_o1_braid_count a_o1_braid_crossings f_o1_weights_modulus a_o1_weights_values_cells) H := hP
        have hD : va_D A (wd_X7_countAll G h_this h_top h_colors h_o1 h_o1_operation h_o1_braid h_o1_weights h_o1_operation_products h_o1_operation_quotients h_o1_operation_products_cells h_o1_operation_quotients_cells h_o1_braid_crossings h_o1_weights_values h_o1_weights_values_cells f_total_4 a_top_14 a_colors_5 f_o1_operation_size f_o1_operation_badColumn a_o1_operation_products_cells a_o1_operation_quotients_cells f_o1_braid_strands f_o1_braid_count a_o1_braid_crossings f_o1_weights_modulus a_o1_weights_values_cells) := hD
        obtain ⟨x4_15, ex4_15⟩ : ∃ y : Int32, y = x4 + 1 := ⟨_, rfl⟩
        have hw := hw x4_15 ex4_15
        refine lv_iinc (v := x4_15) (lv' := [(4, .int x4_15), (3, .int x3_13), (0, .ref h_this), (1, .ref h_o1), (2, .int x2)]) hx hb dX7_countAll_33 hl (k := 4) rfl (by rw [ex4_15]; rfl) (by decide) rfl (fun ls hl => ?_)
        refine lv_goto (tgt := 11) hx hb dX7_countAll_36 (by decide) ?_
        exact ih x3_13 x4_15 f_total_4 a_top_14 a_colors_5 hw _ _ _ hP hD hS (lv_sub hl [2, 3, 4, 1, 0] rfl)
set_option maxHeartbeats 4000000 in
set_option maxRecDepth 100000 in
theorem c_X7_countAll {l : Launch} (G : qn_G) (sz : Nat) (h_this h_top h_colors h_o1 h_o1_operation h_o1_braid h_o1_weights h_o1_operation_products h_o1_operation_quotients h_o1_operation_products_cells h_o1_operation_quotients_cells h_o1_braid_crossings h_o1_weights_values h_o1_weights_values_cells : Nat) (f_total : Int32) (a_top : Nat → Int32) (a_colors : Nat → Int32) (f_o1_operation_size : Int32) (f_o1_operation_badColumn : Int32) (a_o1_operation_products_cells : Nat → Int32) (a_o1_operation_quotients_cells : Nat → Int32) (f_o1_braid_strands : Int32) (f_o1_braid_count : Int32) (a_o1_braid_crossings : Nat → Int32) (f_o1_weights_modulus : Int32) (a_o1_weights_values_cells : Nat → Int32) {post : Int32 → Int32 → (Nat → Int32) → (Nat → Int32) → Prop} (hw : wp_X7_countAll post f_total a_top a_colors f_o1_operation_size a_o1_operation_products_cells a_o1_operation_quotients_cells f_o1_braid_strands f_o1_braid_count a_o1_braid_crossings f_o1_weights_modulus a_o1_weights_values_cells) : Met l yX7_countAll wsX7_countAll rm_X7_countAll (qn_PC G [.ref h_this, .ref h_o1] sz (wd_X7_countAll G h_this h_top h_colors h_o1 h_o1_operation h_o1_braid h_o1_weights h_o1_operation_products h_o1_operation_quotients h_o1_operation_products_cells h_o1_operation_quotients_cells h_o1_braid_crossings h_o1_weights_values h_o1_weights_values_cells f_total a_top a_colors f_o1_operation_size f_o1_operation_badColumn a_o1_operation_products_cells a_o1_operation_quotients_cells f_o1_braid_strands f_o1_braid_count a_o1_braid_crossings f_o1_weights_modulus a_o1_weights_values_cells)) (qn_QI G (fun (r : Int32) (u : Int32 × (Nat → Int32) × (Nat → Int32)) => post r u.1 u.2.1 u.2.2) (fun u : Int32 × (Nat → Int32) × (Nat → Int32) => wd_X7_countAll G h_this h_top h_colors h_o1 h_o1_operation h_o1_braid h_o1_weights h_o1_operation_products h_o1_operation_quotients h_o1_operation_products_cells h_o1_operation_quotients_cells h_o1_braid_crossings h_o1_weights_values h_o1_weights_values_cells (u.1) (u.2.1) (u.2.2) f_o1_operation_size f_o1_operation_badColumn a_o1_operation_products_cells a_o1_operation_quotients_cells f_o1_braid_strands f_o1_braid_count a_o1_braid_crossings f_o1_weights_modulus a_o1_weights_values_cells) (va_A (wd_X7_countAll G h_this h_top h_colors h_o1 h_o1_operation h_o1_braid h_o1_weights h_o1_operation_products h_o1_operation_quotients h_o1_operation_products_cells h_o1_operation_quotients_cells h_o1_braid_crossings h_o1_weights_values h_o1_weights_values_cells f_total a_top a_colors f_o1_operation_size f_o1_operation_badColumn a_o1_operation_products_cells a_o1_operation_quotients_cells f_o1_braid_strands f_o1_braid_count a_o1_braid_crossings f_o1_weights_modulus a_o1_weights_values_cells) sz)) 0 0 (va_A (wd_X7_countAll G h_this h_top h_colors h_o1 h_o1_operation h_o1_braid h_o1_weights h_o1_operation_products h_o1_operation_quotients h_o1_operation_products_cells h_o1_operation_quotients_cells h_o1_braid_crossings h_o1_weights_values h_o1_weights_values_cells f_total a_top a_colors f_o1_operation_size f_o1_operation_badColumn a_o1_operation_products_cells a_o1_operation_quotients_cells f_o1_braid_strands f_o1_braid_count a_o1_braid_crossings f_o1_weights_modulus a_o1_weights_values_cells) sz) := by
  refine Met.ofW (cc := cX7_countAll) (maxL := 5) (ret := (some .int)) (by decide) rfl ?_
  intro p e s m args below meth c s₁ B hml hv
  obtain ⟨rfl, hsz, hP, hE, hD0⟩ := hv
  have C0 : qn_C p m c cX7_countAll 5 s _ wsX7_countAll RX7 meth (some .int) := qn_C0 B hml
  obtain ⟨hx, hb, -, hown, hts, hr, hlocks⟩ := id C0
  subst hsz
  have hD := hD0.self (sz := s.heap.size)
  generalize hAe : va_A (wd_X7_countAll G h_this h_top h_colors h_o1 h_o1_operation h_o1_braid h_o1_weights h_o1_operation_products h_o1_operation_quotients h_o1_operation_products_cells h_o1_operation_quotients_cells h_o1_braid_crossings h_o1_weights_values h_o1_weights_values_cells f_total a_top a_colors f_o1_operation_size f_o1_operation_badColumn a_o1_operation_products_cells a_o1_operation_quotients_cells f_o1_braid_strands f_o1_braid_count a_o1_braid_crossings f_o1_weights_modulus a_o1_weights_values_cells) s.heap.size = A at hD ⊢
  have hA : ∀ q : Nat, s.heap.size ≤ q → A q := fun q h => by rw [← hAe]; exact Or.inr h
  clear hAe
  have hS : va_S A s.heap s.heap [] := va_S.rf
  have hl := lv_entry ([.ref h_this, .ref h_o1]) (n := 5) (Nat.le_of_ble_eq_true rfl)
  rw [lg_entry_eq]
  generalize (lg_sl ([.ref h_this, .ref h_o1]) ++ List.replicate (5 - (lg_sl ([.ref h_this, .ref h_o1])).length) Slot.unset).toArray = ls at hl ⊢
  have hl : lv_has ls 5 [(0, .ref h_this), (1, .ref h_o1)] := hl
  have hP : va_P G.1 vwCl (wd_X7_countAll G h_this h_top h_colors h_o1 h_o1_operation h_o1_braid h_o1_weights h_o1_operation_products h_o1_operation_quotients h_o1_operation_products_cells h_o1_operation_quotients_cells h_o1_braid_crossings h_o1_weights_values h_o1_weights_values_cells f_total a_top a_colors f_o1_operation_size f_o1_operation_badColumn a_o1_operation_products_cells a_o1_operation_quotients_cells f_o1_braid_strands f_o1_braid_count a_o1_braid_crossings f_o1_weights_modulus a_o1_weights_values_cells) s.heap := hP
  refine lv_aload_n hx hb dX7_countAll_0 rfl (lv_at hl 0 rfl) ?_
  refine lv_aload_n hx hb dX7_countAll_1 rfl (lv_at hl 1 rfl) ?_
  have hC9 : ([0, 1, 3, 4, 9]).map (fun i => (wd_X7_countAll G h_this h_top h_colors h_o1 h_o1_operation h_o1_braid h_o1_weights h_o1_operation_products h_o1_operation_quotients h_o1_operation_products_cells h_o1_operation_quotients_cells h_o1_braid_crossings h_o1_weights_values h_o1_weights_values_cells f_total a_top a_colors f_o1_operation_size f_o1_operation_badColumn a_o1_operation_products_cells a_o1_operation_quotients_cells f_o1_braid_strands f_o1_braid_count a_o1_braid_crossings f_o1_weights_modulus a_o1_weights_values_cells)[i]?) = (wd_X7_startAtFirst G h_this h_top h_colors h_o1 h_o1_operation h_o1_braid h_o1_weights h_o1_operation_products h_o1_operation_quotients h_o1_braid_crossings f_total a_top f_o1_operation_size f_o1_operation_badColumn f_o1_braid_strands f_o1_braid_count).map some := rfl
  refine qn_callI (wd := (fun u : (Nat → Int32) => wd_X7_countAll G h_this h_top h_colors h_o1 h_o1_operation h_o1_braid h_o1_weights h_o1_operation_products h_o1_operation_quotients h_o1_operation_products_cells h_o1_operation_quotients_cells h_o1_braid_crossings h_o1_weights_values h_o1_weights_values_cells f_total u a_colors f_o1_operation_size f_o1_operation_badColumn a_o1_operation_products_cells a_o1_operation_quotients_cells f_o1_braid_strands f_o1_braid_count a_o1_braid_crossings f_o1_weights_modulus a_o1_weights_values_cells)) [0, 1, 3, 4, 9] (va_runV (As := [.ref h_o1]) (rest := []) ⟨hx, hb, hml, hown, hts⟩ (c_X7_startAtFirst G _ h_this h_top h_colors h_o1 h_o1_operation h_o1_braid h_o1_weights h_o1_operation_products h_o1_operation_quotients h_o1_braid_crossings f_total a_top f_o1_operation_size f_o1_operation_badColumn f_o1_braid_strands f_o1_braid_count hw) (cwV 1 hts gX7_countAll_X7_startAtFirst rfl rfl rfl (by decide +kernel) ⟨Nat.le_of_ble_eq_true rfl, Nat.le_of_ble_eq_true rfl⟩) (qn_preV hE hP hD [0, 1, 3, 4, 9] hC9 (by decide +kernel) (ci := 7) rfl rfl) rfl rfl hl.1 rfl (lv_room (Nat.le_of_ble_eq_true rfl)) dX7_countAll_2 ⟨Nat.le_of_ble_eq_true rfl, Nat.le_of_ble_eq_true rfl⟩) hP hD hS hA hC9 [some 0, some 1, none, some 2, some 3, none, none, none, none, some 4, none, none, none, none] (M := 14) rfl (by decide +kernel) (fun _ => rfl) (fun _ => rfl) (fun r_2 a_top_1 H locs hw hP hD hS => ?_)
  try dsimp only at hw
  have hP : va_P G.1 vwCl (wd_X7_countAll G h_this h_top h_colors h_o1 h_o1_operation h_o1_braid h_o1_weights h_o1_operation_products h_o1_operation_quotients h_o1_operation_products_cells h_o1_operation_quotients_cells h_o1_braid_crossings h_o1_weights_values h_o1_weights_values_cells f_total a_top_1 a_colors f_o1_operation_size f_o1_operation_badColumn a_o1_operation_products_cells a_o1_operation_quotients_cells f_o1_braid_strands f_o1_braid_count a_o1_braid_crossings f_o1_weights_modulus a_o1_weights_values_cells) H := hP
  have hD : va_D A (wd_X7_countAll G h_this h_top h_colors h_o1 h_o1_operation h_o1_braid h_o1_weights h_o1_operation_products h_o1_operation_quotients h_o1_operation_products_cells h_o1_operation_quotients_cells h_o1_braid_crossings h_o1_weights_values h_o1_weights_values_cells f_total a_top_1 a_colors f_o1_operation_size f_o1_operation_badColumn a_o1_operation_products_cells a_o1_operation_quotients_cells f_o1_braid_strands f_o1_braid_count a_o1_braid_crossings f_o1_weights_modulus a_o1_weights_values_cells) := hD
  refine lv_istore_n (lv' := [(2, .int r_2), (0, .ref h_this), (1, .ref h_o1)]) hx hb dX7_countAll_5 rfl hl (by decide) rfl (fun ls hl => ?_)
  refine lv_iconst (v := 0) hx hb dX7_countAll_6 (by decide) ?_
  refine lv_istore_n (lv' := [(3, .int 0), (2, .int r_2), (0, .ref h_this), (1, .ref h_o1)]) hx hb dX7_countAll_7 rfl hl (by decide) rfl (fun ls hl => ?_)
  refine lv_iconst (v := 0) hx hb dX7_countAll_8 (by decide) ?_
  refine lv_istore (lv' := [(4, .int 0), (3, .int 0), (2, .int r_2), (0, .ref h_this), (1, .ref h_o1)]) hx hb dX7_countAll_9 hl (by decide) rfl (fun ls hl => ?_)
  obtain ⟨fu_20, hw⟩ := hw
  refine l_X7_countAll_11 (post := post) C0 hE hA (fun x3_16 f_total_17 a_top_18 a_colors_19 hw H locs ls hP hD hS hl => ?_) fu_20 0 0 f_total a_top_1 a_colors hw _ _ _ hP hD hS (lv_sub hl [3, 4, 2, 1, 0] rfl)
  refine lv_iload_n hx hb dX7_countAll_39 rfl (lv_at hl 0 rfl) ?_
  exact W.iret (v := x3_16) hx hb hr (fun t ht hW => ⟨⟨x3_16, (f_total_17, a_top_18, a_colors_19), rfl, hw, by rw [ht]; exact hP, hD⟩, hS.F ht⟩) hS.2.2 dX7_countAll_40
-- QuandleColorings$Tracer.countWithTotal(LQuandleColorings$State;I)I
abbrev rm_X7_countWithTotal : Room := { frames := 5, cells := 0, slots := 0, locals := 113 }
abbrev wd_X7_countWithTotal (G : qn_G) (h_this h_top h_colors h_o1 h_o1_operation h_o1_braid h_o1_weights h_o1_operation_products h_o1_operation_quotients h_o1_operation_products_cells h_o1_operation_quotients_cells h_o1_braid_crossings h_o1_weights_values h_o1_weights_values_cells : Nat) (f_total : Int32) (a_top : Nat → Int32) (a_colors : Nat → Int32) (f_o1_operation_size : Int32) (f_o1_operation_badColumn : Int32) (a_o1_operation_products_cells : Nat → Int32) (a_o1_operation_quotients_cells : Nat → Int32) (f_o1_braid_strands : Int32) (f_o1_braid_count : Int32) (a_o1_braid_crossings : Nat → Int32) (f_o1_weights_modulus : Int32) (a_o1_weights_values_cells : Nat → Int32) : va_W := [(h_this, .inr (7, [.ref h_top, .ref h_colors, .int f_total])), (h_top, .inl (G.2.1, 4, .inl a_top)), (h_colors, .inl (G.2.1, 4, .inl a_colors)), (h_o1, .inr (6, [.ref h_o1_operation, .ref h_o1_braid, .ref h_o1_weights])), (h_o1_operation, .inr (5, [.int f_o1_operation_size, .ref h_o1_operation_products, .ref h_o1_operation_quotients, .int f_o1_operation_badColumn])), (h_o1_operation_products, .inr (2, [.ref h_o1_operation_products_cells])), (h_o1_operation_products_cells, .inl (G.2.1, 36, .inl a_o1_operation_products_cells)), (h_o1_operation_quotients, .inr (2, [.ref h_o1_operation_quotients_cells])), (h_o1_operation_quotients_cells, .inl (G.2.1, 36, .inl a_o1_operation_quotients_cells)), (h_o1_braid, .inr (1, [.int f_o1_braid_strands, .int f_o1_braid_count, .ref h_o1_braid_crossings])), (h_o1_braid_crossings, .inl (G.2.1, 12, .inl a_o1_braid_crossings)), (h_o1_weights, .inr (8, [.int f_o1_weights_modulus, .ref h_o1_weights_values])), (h_o1_weights_values, .inr (2, [.ref h_o1_weights_values_cells])), (h_o1_weights_values_cells, .inl (G.2.1, 36, .inl a_o1_weights_values_cells))]
theorem in_X7_countWithTotal_X7 : ∀ w ∈ u_ws RX7 TX7 3, w ∈ wsX7_countWithTotal := by decide +kernel
theorem lk_X7_countWithTotal_18 : Cond.fieldLink RX7 18 "QuandleColorings$Tracer" "total" "I" ∈ wsX7_countWithTotal := by decide +kernel
def wp_X7_countWithTotal_J37 (BL12 : Int32 → Int32 → Int32 → (Nat → Int32) → (Nat → Int32) → Prop) (x4 : Int32) (x5 : Int32) (f_total : Int32) (a_top : Nat → Int32) (a_colors : Nat → Int32) (f_o1_operation_size : Int32) (f_o1_braid_strands : Int32) : Prop := (wp_X7_advance (fun (a_top_9 : Nat → Int32) => (∀ x5_10 : Int32, x5_10 = x5 + 1 → (BL12 x4 x5_10 f_total a_top_9 a_colors))) a_top f_o1_operation_size f_o1_braid_strands)
def wp_X7_countWithTotal_L12 (KL12 : Int32 → Int32 → (Nat → Int32) → (Nat → Int32) → Prop) (x2 : Int32) (x3 : Int32) (f_o1_operation_size : Int32) (a_o1_operation_products_cells : Nat → Int32) (a_o1_operation_quotients_cells : Nat → Int32) (f_o1_braid_strands : Int32) (f_o1_braid_count : Int32) (a_o1_braid_crossings : Nat → Int32) (f_o1_weights_modulus : Int32) (a_o1_weights_values_cells : Nat → Int32) : Nat → Int32 → Int32 → Int32 → (Nat → Int32) → (Nat → Int32) → Prop
  | 0 => fun _ _ _ _ _ => False
  | fu + 1 => fun x4 x5 f_total a_top a_colors => ((x3 ≤ x5 → (KL12 x4 f_total a_top a_colors)) ∧ (¬ x3 ≤ x5 → (wp_X7_closes (fun (r_6 : Int32) (f_total_4 : Int32) (a_colors_5 : Nat → Int32) => ((r_6 = 0 → (wp_X7_countWithTotal_J37 (wp_X7_countWithTotal_L12 KL12 x2 x3 f_o1_operation_size a_o1_operation_products_cells a_o1_operation_quotients_cells f_o1_braid_strands f_o1_braid_count a_o1_braid_crossings f_o1_weights_modulus a_o1_weights_values_cells fu) x4 x5 f_total_4 a_top a_colors_5 f_o1_operation_size f_o1_braid_strands)) ∧ (¬ r_6 = 0 → ((¬ f_total_4 = x2 → (wp_X7_countWithTotal_J37 (wp_X7_countWithTotal_L12 KL12 x2 x3 f_o1_operation_size a_o1_operation_products_cells a_o1_operation_quotients_cells f_o1_braid_strands f_o1_braid_count a_o1_braid_crossings f_o1_weights_modulus a_o1_weights_values_cells fu) x4 x5 f_total_4 a_top a_colors_5 f_o1_operation_size f_o1_braid_strands)) ∧ (f_total_4 = x2 → (∀ x4_16 : Int32, x4_16 = x4 + 1 → (wp_X7_countWithTotal_J37 (wp_X7_countWithTotal_L12 KL12 x2 x3 f_o1_operation_size a_o1_operation_products_cells a_o1_operation_quotients_cells f_o1_braid_strands f_o1_braid_count a_o1_braid_crossings f_o1_weights_modulus a_o1_weights_values_cells fu) x4_16 x5 f_total_4 a_top a_colors_5 f_o1_operation_size f_o1_braid_strands))))))) a_top a_colors a_o1_operation_products_cells a_o1_operation_quotients_cells f_o1_braid_count a_o1_braid_crossings f_o1_weights_modulus a_o1_weights_values_cells)))
def wp_X7_countWithTotal (post : Int32 → Int32 → (Nat → Int32) → (Nat → Int32) → Prop) (f_total : Int32) (a_top : Nat → Int32) (a_colors : Nat → Int32) (f_o1_operation_size : Int32) (a_o1_operation_products_cells : Nat → Int32) (a_o1_operation_quotients_cells : Nat → Int32) (f_o1_braid_strands : Int32) (f_o1_braid_count : Int32) (a_o1_braid_crossings : Nat → Int32) (f_o1_weights_modulus : Int32) (a_o1_weights_values_cells : Nat → Int32) (x2 : Int32) : Prop := (wp_X7_startAtFirst (fun (r_2 : Int32) (a_top_1 : Nat → Int32) => (∃ fu_23 : Nat, wp_X7_countWithTotal_L12 (fun (x4_19 : Int32) (f_total_20 : Int32) (a_top_21 : Nat → Int32) (a_colors_22 : Nat → Int32) => (post x4_19 f_total_20 a_top_21 a_colors_22)) x2 r_2 f_o1_operation_size a_o1_operation_products_cells a_o1_operation_quotients_cells f_o1_braid_strands f_o1_braid_count a_o1_braid_crossings f_o1_weights_modulus a_o1_weights_values_cells fu_23 0 0 f_total a_top_1 a_colors)) a_top f_o1_operation_size f_o1_braid_strands)
set_option maxHeartbeats 4000000 in
set_option maxRecDepth 100000 in
theorem l_X7_countWithTotal_12 {p : Program} {l : Launch} {e : Env} {s : State} {m : MethodId} {args : Array Value} {below : List Frame} {meth : Method} {c : Code} {G : qn_G} {A : Nat → Prop} {h_this h_top h_colors h_o1 h_o1_operation h_o1_braid h_o1_weights h_o1_operation_products h_o1_operation_quotients h_o1_operation_products_cells h_o1_operation_quotients_cells h_o1_braid_crossings h_o1_weights_values h_o1_weights_values_cells : Nat} {f_o1_operation_size : Int32} {f_o1_operation_badColumn : Int32} {a_o1_operation_products_cells : Nat → Int32} {a_o1_operation_quotients_cells : Nat → Int32} {f_o1_braid_strands : Int32} {f_o1_braid_count : Int32} {a_o1_braid_crossings : Nat → Int32} {f_o1_weights_modulus : Int32} {a_o1_weights_values_cells : Nat → Int32} {x2 : Int32} {x3 : Int32} {post : Int32 → Int32 → (Nat → Int32) → (Nat → Int32) → Prop} {KL12 : Int32 → Int32 → (Nat → Int32) → (Nat → Int32) → Prop} (C0 : qn_C p m c cX7_countWithTotal 6 s args wsX7_countWithTotal RX7 meth (some .int)) (hE : qn_EV G s) (hA : ∀ q, s.heap.size ≤ q → A q) (hKc : ∀ (x4 : Int32) (f_total : Int32) (a_top : Nat → Int32) (a_colors : Nat → Int32), KL12 x4 f_total a_top a_colors → ∀ (H : Heap) (locs : List Loc) (ls : Array Slot), va_P G.1 vwCl (wd_X7_countWithTotal G h_this h_top h_colors h_o1 h_o1_operation h_o1_braid h_o1_weights h_o1_operation_products h_o1_operation_quotients h_o1_operation_products_cells h_o1_operation_quotients_cells h_o1_braid_crossings h_o1_weights_values h_o1_weights_values_cells f_total a_top a_colors f_o1_operation_size f_o1_operation_badColumn a_o1_operation_products_cells a_o1_operation_quotients_cells f_o1_braid_strands f_o1_braid_count a_o1_braid_crossings f_o1_weights_modulus a_o1_weights_values_cells) H → va_D A (wd_X7_countWithTotal G h_this h_top h_colors h_o1 h_o1_operation h_o1_braid h_o1_weights h_o1_operation_products h_o1_operation_quotients h_o1_operation_products_cells h_o1_operation_quotients_cells h_o1_braid_crossings h_o1_weights_values h_o1_weights_values_cells f_total a_top a_colors f_o1_operation_size f_o1_operation_badColumn a_o1_operation_products_cells a_o1_operation_quotients_cells f_o1_braid_strands f_o1_braid_count a_o1_braid_crossings f_o1_weights_modulus a_o1_weights_values_cells) → va_S A s.heap H locs → lv_has ls 6 [(4, .int x4)] → W p l e (headSpec wsX7_countWithTotal rm_X7_countWithTotal).room s m args below meth c H locs 0 0 (MQ below (qn_QI G (fun (r : Int32) (u : Int32 × (Nat → Int32) × (Nat → Int32)) => post r u.1 u.2.1 u.2.2) (fun u : Int32 × (Nat → Int32) × (Nat → Int32) => wd_X7_countWithTotal G h_this h_top h_colors h_o1 h_o1_operation h_o1_braid h_o1_weights h_o1_operation_products h_o1_operation_quotients h_o1_operation_products_cells h_o1_operation_quotients_cells h_o1_braid_crossings h_o1_weights_values h_o1_weights_values_cells (u.1) (u.2.1) (u.2.2) f_o1_operation_size f_o1_operation_badColumn a_o1_operation_products_cells a_o1_operation_quotients_cells f_o1_braid_strands f_o1_braid_count a_o1_braid_crossings f_o1_weights_modulus a_o1_weights_values_cells) A) args s 0 0 A) (F0 m 48 ls [])) :
    ∀ (fu : Nat) (x4 : Int32) (x5 : Int32) (f_total : Int32) (a_top : Nat → Int32) (a_colors : Nat → Int32), wp_X7_countWithTotal_L12 KL12 x2 x3 f_o1_operation_size a_o1_operation_products_cells a_o1_operation_quotients_cells f_o1_braid_strands f_o1_braid_count a_o1_braid_crossings f_o1_weights_modulus a_o1_weights_values_cells fu x4 x5 f_total a_top a_colors → ∀ (H : Heap) (locs : List Loc) (ls : Array Slot), va_P G.1 vwCl (wd_X7_countWithTotal G h_this h_top h_colors h_o1 h_o1_operation h_o1_braid h_o1_weights h_o1_operation_products h_o1_operation_quotients h_o1_operation_products_cells h_o1_operation_quotients_cells h_o1_braid_crossings h_o1_weights_values h_o1_weights_values_cells f_total a_top a_colors f_o1_operation_size f_o1_operation_badColumn a_o1_operation_products_cells a_o1_operation_quotients_cells f_o1_braid_strands f_o1_braid_count a_o1_braid_crossings f_o1_weights_modulus a_o1_weights_values_cells) H → va_D A (wd_X7_countWithTotal G h_this h_top h_colors h_o1 h_o1_operation h_o1_braid h_o1_weights h_o1_operation_products h_o1_operation_quotients h_o1_operation_products_cells h_o1_operation_quotients_cells h_o1_braid_crossings h_o1_weights_values h_o1_weights_values_cells f_total a_top a_colors f_o1_operation_size f_o1_operation_badColumn a_o1_operation_products_cells a_o1_operation_quotients_cells f_o1_braid_strands f_o1_braid_count a_o1_braid_crossings f_o1_weights_modulus a_o1_weights_values_cells) → va_S A s.heap H locs → lv_has ls 6 [(0, .ref h_this), (1, .ref h_o1), (2, .int x2), (3, .int x3), (4, .int x4), (5, .int x5)] → W p l e (headSpec wsX7_countWithTotal rm_X7_countWithTotal).room s m args below meth c H locs 0 0 (MQ below (qn_QI G (fun (r : Int32) (u : Int32 × (Nat → Int32) × (Nat → Int32)) => post r u.1 u.2.1 u.2.2) (fun u : Int32 × (Nat → Int32) × (Nat → Int32) => wd_X7_countWithTotal G h_this h_top h_colors h_o1 h_o1_operation h_o1_braid h_o1_weights h_o1_operation_products h_o1_operation_quotients h_o1_operation_products_cells h_o1_operation_quotients_cells h_o1_braid_crossings h_o1_weights_values h_o1_weights_values_cells (u.1) (u.2.1) (u.2.2) f_o1_operation_size f_o1_operation_badColumn a_o1_operation_products_cells a_o1_operation_quotients_cells f_o1_braid_strands f_o1_braid_count a_o1_braid_crossings f_o1_weights_modulus a_o1_weights_values_cells) A) args s 0 0 A) (F0 m 12 ls []) := by
  obtain ⟨hx, hb, hml, hown, hts, hr, hlocks⟩ := id C0
  intro fu
  induction fu with
  | zero => intro x4 x5 f_total a_top a_colors hw; exact hw.elim
  | succ fu ih =>
    intro x4 x5 f_total a_top a_colors hw H locs ls hP hD hS hl
    refine lv_iload hx hb dX7_countWithTotal_12 (lv_at hl 5 rfl) ?_
    refine lv_iload_n hx hb dX7_countWithTotal_14 rfl (lv_at hl 3 rfl) ?_
    refine lv_icmp_ge (tgt := 48) hx hb dX7_countWithTotal_15 (by decide) (fun c_3 => ?_) (fun c_3 => ?_)
    · have hw := hw.1 c_3
      exact hKc x4 f_total a_top a_colors hw _ _ _ hP hD hS (lv_sub hl [4] rfl)
    · have hw := hw.2 c_3
      refine lv_aload_n hx hb dX7_countWithTotal_18 rfl (lv_at hl 0 rfl) ?_
      refine lv_aload_n hx hb dX7_countWithTotal_19 rfl (lv_at hl 1 rfl) ?_
      have hC9 : ([0, 1, 2, 3, 4, 5, 6, 7, 8, 9, 10, 11, 12, 13]).map (fun i => (wd_X7_countWithTotal G h_this h_top h_colors h_o1 h_o1_operation h_o1_braid h_o1_weights h_o1_operation_products h_o1_operation_quotients h_o1_operation_products_cells h_o1_operation_quotients_cells h_o1_braid_crossings h_o1_weights_values h_o1_weights_values_cells f_total a_top a_colors f_o1_operation_size f_o1_operation_badColumn a_o1_operation_products_cells a_o1_operation_quotients_cells f_o1_braid_strands f_o1_braid_count a_o1_braid_crossings f_o1_weights_modulus a_o1_weights_values_cells)[i]?) = (wd_X7_closes G h_this h_top h_colors h_o1 h_o1_operation h_o1_braid h_o1_weights h_o1_operation_products h_o1_operation_quotients h_o1_operation_products_cells h_o1_operation_quotients_cells h_o1_braid_crossings h_o1_weights_values h_o1_weights_values_cells f_total a_top a_colors f_o1_operation_size f_o1_operation_badColumn a_o1_operation_products_cells a_o1_operation_quotients_cells f_o1_braid_strands f_o1_braid_count a_o1_braid_crossings f_o1_weights_modulus a_o1_weights_values_cells).map some := rfl
      refine qn_callI (wd := (fun u : Int32 × (Nat → Int32) => wd_X7_countWithTotal G h_this h_top h_colors h_o1 h_o1_operation h_o1_braid h_o1_weights h_o1_operation_products h_o1_operation_quotients h_o1_operation_products_cells h_o1_operation_quotients_cells h_o1_braid_crossings h_o1_weights_values h_o1_weights_values_cells (u.1) a_top (u.2) f_o1_operation_size f_o1_operation_badColumn a_o1_operation_products_cells a_o1_operation_quotients_cells f_o1_braid_strands f_o1_braid_count a_o1_braid_crossings f_o1_weights_modulus a_o1_weights_values_cells)) [0, 1, 2, 3, 4, 5, 6, 7, 8, 9, 10, 11, 12, 13] (va_runV (As := [.ref h_o1]) (rest := []) ⟨hx, hb, hml, hown, hts⟩ (c_X7_closes G _ h_this h_top h_colors h_o1 h_o1_operation h_o1_braid h_o1_weights h_o1_operation_products h_o1_operation_quotients h_o1_operation_products_cells h_o1_operation_quotients_cells h_o1_braid_crossings h_o1_weights_values h_o1_weights_values_cells f_total a_top a_colors f_o1_operation_size f_o1_operation_badColumn a_o1_operation_products_cells a_o1_operation_quotients_cells f_o1_braid_strands f_o1_braid_count a_o1_braid_crossings f_o1_weights_modulus a_o1_weights_values_cells hw) (cwV 1 hts gX7_countWithTotal_X7_closes rfl rfl rfl (by decide +kernel) ⟨Nat.le_of_ble_eq_true rfl, Nat.le_of_ble_eq_true rfl⟩) (qn_preV hE hP hD [0, 1, 2, 3, 4, 5, 6, 7, 8, 9, 10, 11, 12, 13] hC9 (by decide +kernel) (ci := 7) rfl rfl) rfl rfl hl.1 rfl (lv_room (Nat.le_of_ble_eq_true rfl)) dX7_countWithTotal_20 ⟨Nat.le_of_ble_eq_true rfl, Nat.le_of_ble_eq_true rfl⟩) hP hD hS hA hC9 [some 0, some 1, some 2, some 3, some 4, some 5, some 6, some 7, some 8, some 9, some 10, some 11, some 12, some 13] (M := 14) rfl (by decide +kernel) (fun _ => rfl) (fun _ => rfl) (fun r_6 u_7 H locs hw hP hD hS => ?_)
      obtain ⟨f_total_4, a_colors_5⟩ := u_7
      try dsimp only at hw
      have hP : va_P G.1 vwCl (wd_X7_countWithTotal G h_this h_top h_colors h_o1 h_o1_operation h_o1_braid h_o1_weights h_o1_operation_products h_o1_operation_quotients h_o1_operation_products_cells h_o1_operation_quotients_cells h_o1_braid_crossings h_o1_weights_values h_o1_weights_values_cells f_total_4 a_top a_colors_5 f_o1_operation_size f_o1_operation_badColumn a_o1_operation_products_cells a_o1_operation_quotients_cells f_o1_braid_strands f_o1_braid_count a_o1_braid_crossings f_o1_weights_modulus a_o1_weights_values_cells) H := hP
      have hD : va_D A (wd_X7_countWithTotal G h_this h_top h_colors h_o1 h_o1_operation h_o1_braid h_o1_weights h_o1_operation_products h_o1_operation_quotients h_o1_operation_products_cells h_o1_operation_quotients_cells h_o1_braid_crossings h_o1_weights_values h_o1_weights_values_cells f_total_4 a_top a_colors_5 f_o1_operation_size f_o1_operation_badColumn a_o1_operation_products_cells a_o1_operation_quotients_cells f_o1_braid_strands f_o1_braid_count a_o1_braid_crossings f_o1_weights_modulus a_o1_weights_values_cells) := hD
      refine lv_if_eq (tgt := 37) hx hb dX7_countWithTotal_23 (by decide) (fun c_8 => ?_) (fun c_8 => ?_)
      · have hw := hw.1 c_8
        refine lv_aload_n hx hb dX7_countWithTotal_37 rfl (lv_at hl 0 rfl) ?_
        refine lv_aload_n hx hb dX7_countWithTotal_38 rfl (lv_at hl 1 rfl) ?_
        have hC9 : ([0, 1, 3, 4, 9]).map (fun i => (wd_X7_countWithTotal G h_this h_top h_colors h_o1 h_o1_operation h_o1_braid h_o1_weights h_o1_operation_products h_o1_operation_quotients h_o1_operation_products_cells h_o1_operation_quotients_cells h_o1_braid_crossings h_o1_weights_values h_o1_weights_values_cells f_total_4 a_top a_colors_5 f_o1_operation_size f_o1_operation_badColumn a_o1_operation_products_cells a_o1_operation_quotients_cells f_o1_braid_strands f_o1_braid_count a_o1_braid_crossings f_o1_weights_modulus a_o1_weights_values_cells)[i]?) = (wd_X7_advance G h_this h_top h_colors h_o1 h_o1_operation h_o1_braid h_o1_weights h_o1_operation_products h_o1_operation_quotients h_o1_braid_crossings f_total_4 a_top f_o1_operation_size f_o1_operation_badColumn f_o1_braid_strands f_o1_braid_count).map some := rfl
        refine qn_callV (wd := (fun u : (Nat → Int32) => wd_X7_countWithTotal G h_this h_top h_colors h_o1 h_o1_operation h_o1_braid h_o1_weights h_o1_operation_products h_o1_operation_quotients h_o1_operation_products_cells h_o1_operation_quotients_cells h_o1_braid_crossings h_o1_weights_values h_o1_weights_values_cells f_total_4 u a_colors_5 f_o1_operation_size f_o1_operation_badColumn a_o1_operation_products_cells a_o1_operation_quotients_cells f_o1_braid_strands f_o1_braid_count a_o1_braid_crossings f_o1_weights_modulus a_o1_weights_values_cells)) [0, 1, 3, 4, 9] (va_runV (As := [.ref h_o1]) (rest := []) ⟨hx, hb, hml, hown, hts⟩ (c_X7_advance G _ h_this h_top h_colors h_o1 h_o1_operation h_o1_braid h_o1_weights h_o1_operation_products h_o1_operation_quotients h_o1_braid_crossings f_total_4 a_top f_o1_operation_size f_o1_operation_badColumn f_o1_braid_strands f_o1_braid_count hw) (cwV 1 hts gX7_countWithTotal_X7_advance rfl rfl rfl (by decide +kernel) ⟨Nat.le_of_ble_eq_true rfl, Nat.le_of_ble_eq_true rfl⟩) (qn_preV hE hP hD [0, 1, 3, 4, 9] hC9 (by decide +kernel) (ci := 7) rfl rfl) rfl rfl hl.1 rfl (lv_room (Nat.le_of_ble_eq_true rfl)) dX7_countWithTotal_39 ⟨Nat.le_of_ble_eq_true rfl, Nat.le_of_ble_eq_true rfl⟩) hP hD hS hA hC9 [some 0, some 1, none, some 2, some 3, none, none, none, none, some 4, none, none, none, none] (M := 14) rfl (by decide +kernel) (fun _ => rfl) (fun _ => rfl) (fun a_top_11 H locs hw hP hD hS => ?_)
        try dsimp only at hw
        have hP : va_P G.1 vwCl (wd_X7_countWithTotal G h_this h_top h_colors h_o1 h_o1_operation h_o1_braid h_o1_weights h_o1_operation_products h_o1_operation_quotients h_o1_operation_products_cells h_o1_operation_quotients_cells h_o1_braid_crossings h_o1_weights_values h_o1_weights_values_cells f_total_4 a_top_11 a_colors_5 f_o1_operation_size f_o1_operation_badColumn a_o1_operation_products_cells a_o1_operation_quotients_cells f_o1_braid_strands f_o1_braid_count a_o1_braid_crossings f_o1_weights_modulus a_o1_weights_values_cells) H := hP
        have hD : va_D A (wd_X7_countWithTotal G h_this h_top h_colors h_o1 h_o1_operation h_o1_braid h_o1_weights h_o1_operation_products h_o1_operation_quotients h_o1_operation_products_cells h_o1_operation_quotients_cells h_o1_braid_crossings h_o1_weights_values h_o1_weights_values_cells f_total_4 a_top_11 a_colors_5 f_o1_operation_size f_o1_operation_badColumn a_o1_operation_products_cells a_o1_operation_quotients_cells f_o1_braid_strands f_o1_braid_count a_o1_braid_crossings f_o1_weights_modulus a_o1_weights_values_cells) := hD
        obtain ⟨x5_12, ex5_12⟩ : ∃ y : Int32, y = x5 + 1 := ⟨_, rfl⟩
        have hw := hw x5_12 ex5_12
        refine lv_iinc (v := x5_12) (lv' := [(5, .int x5_12), (0, .ref h_this), (1, .ref h_o1), (2, .int x2), (3, .int x3), (4, .int x4)]) hx hb dX7_countWithTotal_42 hl (k := 5) rfl (by rw [ex5_12]; rfl) (by decide) rfl (fun ls hl => ?_)
        refine lv_goto (tgt := 12) hx hb dX7_countWithTotal_45 (by decide) ?_
        exact ih x4 x5_12 f_total_4 a_top_11 a_colors_5 hw _ _ _ hP hD hS (lv_sub hl [1, 2, 3, 4, 5, 0] rfl)
      · have hw := hw.2 c_8
        refine lv_aload_n hx hb dX7_countWithTotal_26 rfl (lv_at hl 0 rfl) ?_
        refine va_get (D := G.1) (ci := 7) (v := .int f_total_4) (C := RX7) (T := TX7) (N := 3) hx hb hts in_X7_countWithTotal_X7 hown hE.1 hP 0 rfl rfl 2 (by decide) (hts (.fieldLink RX7 18 "QuandleColorings$Tracer" "total" "I") lk_X7_countWithTotal_18) (fun _ h9 => h9) rfl dX7_countWithTotal_27 ?_
        refine lv_iload_n hx hb dX7_countWithTotal_30 rfl (lv_at hl 2 rfl) ?_
        refine lv_icmp_ne (tgt := 37) hx hb dX7_countWithTotal_31 (by decide) (fun c_13 => ?_) (fun c_13 => ?_)
        · have hw := hw.1 c_13
          refine lv_aload_n hx hb dX7_countWithTotal_37 rfl (lv_at hl 0 rfl) ?_
          refine lv_aload_n hx hb dX7_countWithTotal_38 rfl (lv_at hl 1 rfl) ?_
          have hC9 : ([0, 1, 3, 4, 9]).map (fun i => (wd_X7_countWithTotal G h_this h_top h_colors h_o1 h_o1_operation h_o1_braid h_o1_weights h_o1_operation_products h_o1_operation_quotients h_o1_operation_products_cells h_o1_operation_quotients_cells h_o1_braid_crossings h_o1_weights_values h_o1_weights_values_cells f_total_4 a_top a_colors_5 f_o1_operation_size f_o1_operation_badColumn a_o1_operation_products_cells a_o1_operation_quotients_cells f_o1_braid_strands f_o1_braid_count a_o1_braid_crossings f_o1_weights_modulus a_o1_weights_values_cells)[i]?) = (wd_X7_advance G h_this h_top h_colors h_o1 h_o1_operation h_o1_braid h_o1_weights h_o1_operation_products h_o1_operation_quotients h_o1_braid_crossings f_total_4 a_top f_o1_operation_size f_o1_operation_badColumn f_o1_braid_strands f_o1_braid_count).map some := rfl
          refine qn_callV (wd := (fun u : (Nat → Int32) => wd_X7_countWithTotal G h_this h_top h_colors h_o1 h_o1_operation h_o1_braid h_o1_weights h_o1_operation_products h_o1_operation_quotients h_o1_operation_products_cells h_o1_operation_quotients_cells h_o1_braid_crossings h_o1_weights_values h_o1_weights_values_cells f_total_4 u a_colors_5 f_o1_operation_size f_o1_operation_badColumn a_o1_operation_products_cells a_o1_operation_quotients_cells f_o1_braid_strands f_o1_braid_count a_o1_braid_crossings f_o1_weights_modulus a_o1_weights_values_cells)) [0, 1, 3, 4, 9] (va_runV (As := [.ref h_o1]) (rest := []) ⟨hx, hb, hml, hown, hts⟩ (c_X7_advance G _ h_this h_top h_colors h_o1 h_o1_operation h_o1_braid h_o1_weights h_o1_operation_products h_o1_operation_quotients h_o1_braid_crossings f_total_4 a_top f_o1_operation_size f_o1_operation_badColumn f_o1_braid_strands f_o1_braid_count hw) (cwV 1 hts gX7_countWithTotal_X7_advance rfl rfl rfl (by decide +kernel) ⟨Nat.le_of_ble_eq_true rfl, Nat.le_of_ble_eq_true rfl⟩) (qn_preV hE hP hD [0, 1, 3, 4, 9] hC9 (by decide +kernel) (ci := 7) rfl rfl) rfl rfl hl.1 rfl (lv_room (Nat.le_of_ble_eq_true rfl)) dX7_countWithTotal_39 ⟨Nat.le_of_ble_eq_true rfl, Nat.le_of_ble_eq_true rfl⟩) hP hD hS hA hC9 [some 0, some 1, none, some 2, some 3, none, none, none, none, some 4, none, none, none, none] (M := 14) rfl (by decide +kernel) (fun _ => rfl) (fun _ => rfl) (fun a_top_14 H locs hw hP hD hS => ?_)
          try dsimp only at hw
          have hP : va_P G.1 vwCl (wd_X7_countWithTotal G h_this h_top h_colors h_o1 h_o1_operation h_o1_braid h_o1_weights h_o1_operation_products h_o1_operation_quotients h_o1_operation_products_cells h_o1_operation_quotients_cells h_o1_braid_crossings h_o1_weights_values h_o1_weights_values_cells f_total_4 a_top_14 a_colors_5 f_o1_operation_size f_o1_operation_badColumn a_o1_operation_products_cells a_o1_operation_quotients_cells f_o1_braid_strands f_o1_braid_count a_o1_braid_crossings f_o1_weights_modulus a_o1_weights_values_cells) H := hP
          have hD : va_D A (wd_X7_countWithTotal G h_this h_top h_colors h_o1 h_o1_operation h_o1_braid h_o1_weights h_o1_operation_products h_o1_operation_quotients h_o1_operation_products_cells h_o1_operation_quotients_cells h_o1_braid_crossings h_o1_weights_values h_o1_weights_values_cells f_total_4 a_top_14 a_colors_5 f_o1_operation_size f_o1_operation_badColumn a_o1_operation_products_cells a_o1_operation_quotients_cells f_o1_braid_strands f_o1_braid_count a_o1_braid_crossings f_o1_weights_modulus a_o1_weights_values_cells) := hD
          obtain ⟨x5_15, ex5_15⟩ : ∃ y : Int32, y = x5 + 1 := ⟨_, rfl⟩
          have hw := hw x5_15 ex5_15
          refine lv_iinc (v := x5_15) (lv' := [(5, .int x5_15), (0, .ref h_this), (1, .ref h_o1), (2, .int x2), (3, .int x3), (4, .int x4)]) hx hb dX7_countWithTotal_42 hl (k := 5) rfl (by rw [ex5_15]; rfl) (by decide) rfl (fun ls hl => ?_)
          refine lv_goto (tgt := 12) hx hb dX7_countWithTotal_45 (by decide) ?_
          exact ih x4 x5_15 f_total_4 a_top_14 a_colors_5 hw _ _ _ hP hD hS (lv_sub hl [1, 2, 3, 4, 5, 0] rfl)
        · have hw := hw.2 c_13
          obtain ⟨x4_16, ex4_16⟩ : ∃ y : Int32, y = x4 + 1 := ⟨_, rfl⟩
          have hw := hw x4_16 ex4_16
          refine lv_iinc (v := x4_16) (lv' := [(4, .int x4_16), (0, .ref h_this), (1, .ref h_o1), (2, .int x2), (3, .int x3), (5, .int x5)]) hx hb dX7_countWithTotal_34 hl (k := 4) rfl (by rw [ex4_16]; rfl) (by decide) rfl (fun ls hl => ?_)
          refine lv_aload_n hx hb dX7_countWithTotal_37 rfl (lv_at hl 1 rfl) ?_
          refine lv_aload_n hx hb dX7_countWithTotal_38 rfl (lv_at hl 2 rfl) ?_
          have hC9 : ([0, 1, 3, 4, 9]).map (fun i => (wd_X7_countWithTotal G h_this h_top h_colors h_o1 h_o1_operation h_o1_braid h_o1_weights h_o1_operation_products h_o1_operation_quotients h_o1_operation_products_cells h_o1_operation_quotients_cells h_o1_braid_crossings h_o1_weights_values h_o1_weights_values_cells f_total_4 a_top a_colors_5 f_o1_operation_size f_o1_operation_badColumn a_o1_operation_products_cells a_o1_operation_quotients_cells f_o1_braid_strands f_o1_braid_count a_o1_braid_crossings f_o1_weights_modulus a_o1_weights_values_cells)[i]?) = (wd_X7_advance G h_this h_top h_colors h_o1 h_o1_operation h_o1_braid h_o1_weights h_o1_operation_products h_o1_operation_quotients h_o1_braid_crossings f_total_4 a_top f_o1_operation_size f_o1_operation_badColumn f_o1_braid_strands f_o1_braid_count).map some := rfl
          refine qn_callV (wd := (fun u : (Nat → Int32) => wd_X7_countWithTotal G h_this h_top h_colors h_o1 h_o1_operation h_o1_braid h_o1_weights h_o1_operation_products h_o1_operation_quotients h_o1_operation_products_cells h_o1_operation_quotients_cells h_o1_braid_crossings h_o1_weights_values h_o1_weights_values_cells f_total_4 u a_colors_5 f_o1_operation_size f_o1_operation_badColumn a_o1_operation_products_cells a_o1_operation_quotients_cells f_o1_braid_strands f_o1_braid_count a_o1_braid_crossings f_o1_weights_modulus a_o1_weights_values_cells)) [0, 1, 3, 4, 9] (va_runV (As := [.ref h_o1]) (rest := []) ⟨hx, hb, hml, hown, hts⟩ (c_X7_advance G _ h_this h_top h_colors h_o1 h_o1_operation h_o1_braid h_o1_weights h_o1_operation_products h_o1_operation_quotients h_o1_braid_crossings f_total_4 a_top f_o1_operation_size f_o1_operation_badColumn f_o1_braid_strands f_o1_braid_count hw) (cwV 1 hts gX7_countWithTotal_X7_advance rfl rfl rfl (by decide +kernel) ⟨Nat.le_of_ble_eq_true rfl, Nat.le_of_ble_eq_true rfl⟩) (qn_preV hE hP hD [0, 1, 3, 4, 9] hC9 (by decide +kernel) (ci := 7) rfl rfl) rfl rfl hl.1 rfl (lv_room (Nat.le_of_ble_eq_true rfl)) dX7_countWithTotal_39 ⟨Nat.le_of_ble_eq_true rfl, Nat.le_of_ble_eq_true rfl⟩) hP hD hS hA hC9 [some 0, some 1, none, some 2, some 3, none, none, none, none, some 4, none, none, none, none] (M := 14) rfl (by decide +kernel) (fun _ => rfl) (fun _ => rfl) (fun a_top_17 H locs hw hP hD hS => ?_)
          try dsimp only at hw
          have hP : va_P G.1 vwCl (wd_X7_countWithTotal G h_this h_top h_colors h_o1 h_o1_operation h_o1_braid h_o1_weights h_o1_operation_products h_o1_operation_quotients h_o1_operation_products_cells h_o1_operation_quotients_cells h_o1_braid_crossings h_o1_weights_values h_o1_weights_values_cells f_total_4 a_top_17 a_colors_5 f_o1_operation_size f_o1_operation_badColumn a_o1_operation_products_cells a_o1_operation_quotients_cells f_o1_braid_strands f_o1_braid_count a_o1_braid_crossings f_o1_weights_modulus a_o1_weights_values_cells) H := hP
          have hD : va_D A (wd_X7_countWithTotal G h_this h_top h_colors h_o1 h_o1_operation h_o1_braid h_o1_weights h_o1_operation_products h_o1_operation_quotients h_o1_operation_products_cells h_o1_operation_quotients_cells h_o1_braid_crossings h_o1_weights_values h_o1_weights_values_cells f_total_4 a_top_17 a_colors_5 f_o1_operation_size f_o1_operation_badColumn a_o1_operation_products_cells a_o1_operation_quotients_cells f_o1_braid_strands f_o1_braid_count a_o1_braid_crossings f_o1_weights_modulus a_o1_weights_values_cells) := hD
          obtain ⟨x5_18, ex5_18⟩ : ∃ y : Int32, y = x5 + 1 := ⟨_, rfl⟩
          have hw := hw x5_18 ex5_18
          refine lv_iinc (v := x5_18) (lv' := [(5, .int x5_18), (4, .int x4_16), (0, .ref h_this), (1, .ref h_o1), (2, .int x2), (3, .int x3)]) hx hb dX7_countWithTotal_42 hl (k := 5) rfl (by rw [ex5_18]; rfl) (by decide) rfl (fun ls hl => ?_)
          refine lv_goto (tgt := 12) hx hb dX7_countWithTotal_45 (by decide) ?_
          exact ih x4_16 x5_18 f_total_4 a_top_17 a_colors_5 hw _ _ _ hP hD hS (lv_sub hl [2, 3, 4, 5, 1, 0] rfl)
set_option maxHeartbeats 4000000 in
set_option maxRecDepth 100000 in
theorem c_X7_countWithTotal {l : Launch} (G : qn_G) (sz : Nat) (h_this h_top h_colors h_o1 h_o1_operation h_o1_braid h_o1_weights h_o1_operation_products h_o1_operation_quotients h_o1_operation_products_cells h_o1_operation_quotients_cells h_o1_braid_crossings h_o1_weights_values h_o1_weights_values_cells : Nat) (f_total : Int32) (a_top : Nat → Int32) (a_colors : Nat → Int32) (f_o1_operation_size : Int32) (f_o1_operation_badColumn : Int32) (a_o1_operation_products_cells : Nat → Int32) (a_o1_operation_quotients_cells : Nat → Int32) (f_o1_braid_strands : Int32) (f_o1_braid_count : Int32) (a_o1_braid_crossings : Nat → Int32) (f_o1_weights_modulus : Int32) (a_o1_weights_values_cells : Nat → Int32) (x2 : Int32) {post : Int32 → Int32 → (Nat → Int32) → (Nat → Int32) → Prop} (hw : wp_X7_countWithTotal post f_total a_top a_colors f_o1_operation_size a_o1_operation_products_cells a_o1_operation_quotients_cells f_o1_braid_strands f_o1_braid_count a_o1_braid_crossings f_o1_weights_modulus a_o1_weights_values_cells x2) : Met l yX7_countWithTotal wsX7_countWithTotal rm_X7_countWithTotal (qn_PC G [.ref h_this, .ref h_o1, .int x2] sz (wd_X7_countWithTotal G h_this h_top h_colors h_o1 h_o1_operation h_o1_braid h_o1_weights h_o1_operation_products h_o1_operation_quotients h_o1_operation_products_cells h_o1_operation_quotients_cells h_o1_braid_crossings h_o1_weights_values h_o1_weights_values_cells f_total a_top a_colors f_o1_operation_size f_o1_operation_badColumn a_o1_operation_products_cells a_o1_operation_quotients_cells f_o1_braid_strands f_o1_braid_count a_o1_braid_crossings f_o1_weights_modulus a_o1_weights_values_cells)) (qn_QI G (fun (r : Int32) (u : Int32 × (Nat → Int32) × (Nat → Int32)) => post r u.1 u.2.1 u.2.2) (fun u : Int32 × (Nat → Int32) × (Nat → Int32) => wd_X7_countWithTotal G h_this h_top h_colors h_o1 h_o1_operation h_o1_braid h_o1_weights h_o1_operation_products h_o1_operation_quotients h_o1_operation_products_cells h_o1_operation_quotients_cells h_o1_braid_crossings h_o1_weights_values h_o1_weights_values_cells (u.1) (u.2.1) (u.2.2) f_o1_operation_size f_o1_operation_badColumn a_o1_operation_products_cells a_o1_operation_quotients_cells f_o1_braid_strands f_o1_braid_count a_o1_braid_crossings f_o1_weights_modulus a_o1_weights_values_cells) (va_A (wd_X7_countWithTotal G h_this h_top h_colors h_o1 h_o1_operation h_o1_braid h_o1_weights h_o1_operation_products h_o1_operation_quotients h_o1_operation_products_cells h_o1_operation_quotients_cells h_o1_braid_crossings h_o1_weights_values h_o1_weights_values_cells f_total a_top a_colors f_o1_operation_size f_o1_operation_badColumn a_o1_operation_products_cells a_o1_operation_quotients_cells f_o1_braid_strands f_o1_braid_count a_o1_braid_crossings f_o1_weights_modulus a_o1_weights_values_cells) sz)) 0 0 (va_A (wd_X7_countWithTotal G h_this h_top h_colors h_o1 h_o1_operation h_o1_braid h_o1_weights h_o1_operation_products h_o1_operation_quotients h_o1_operation_products_cells h_o1_operation_quotients_cells h_o1_braid_crossings h_o1_weights_values h_o1_weights_values_cells f_total a_top a_colors f_o1_operation_size f_o1_operation_badColumn a_o1_operation_products_cells a_o1_operation_quotients_cells f_o1_braid_strands f_o1_braid_count a_o1_braid_crossings f_o1_weights_modulus a_o1_weights_values_cells) sz) := by
  refine Met.ofW (cc := cX7_countWithTotal) (maxL := 6) (ret := (some .int)) (by decide) rfl ?_
  intro p e s m args below meth c s₁ B hml hv
  obtain ⟨rfl, hsz, hP, hE, hD0⟩ := hv
  have C0 : qn_C p m c cX7_countWithTotal 6 s _ wsX7_countWithTotal RX7 meth (some .int) := qn_C0 B hml
  obtain ⟨hx, hb, -, hown, hts, hr, hlocks⟩ := id C0
  subst hsz
  have hD := hD0.self (sz := s.heap.size)
  generalize hAe : va_A (wd_X7_countWithTotal G h_this h_top h_colors h_o1 h_o1_operation h_o1_braid h_o1_weights h_o1_operation_products h_o1_operation_quotients h_o1_operation_products_cells h_o1_operation_quotients_cells h_o1_braid_crossings h_o1_weights_values h_o1_weights_values_cells f_total a_top a_colors f_o1_operation_size f_o1_operation_badColumn a_o1_operation_products_cells a_o1_operation_quotients_cells f_o1_braid_strands f_o1_braid_count a_o1_braid_crossings f_o1_weights_modulus a_o1_weights_values_cells) s.heap.size = A at hD ⊢
  have hA : ∀ q : Nat, s.heap.size ≤ q → A q := fun q h => by rw [← hAe]; exact Or.inr h
  clear hAe
  have hS : va_S A s.heap s.heap [] := va_S.rf
  have hl := lv_entry ([.ref h_this, .ref h_o1, .int x2]) (n := 6) (Nat.le_of_ble_eq_true rfl)
  rw [lg_entry_eq]
  generalize (lg_sl ([.ref h_this, .ref h_o1, .int x2]) ++ List.replicate (6 - (lg_sl ([.ref h_this, .ref h_o1, .int x2])).length) Slot.unset).toArray = ls at hl ⊢
  have hl : lv_has ls 6 [(0, .ref h_this), (1, .ref h_o1), (2, .int x2)] := hl
  have hP : va_P G.1 vwCl (wd_X7_countWithTotal G h_this h_top h_colors h_o1 h_o1_operation h_o1_braid h_o1_weights h_o1_operation_products h_o1_operation_quotients h_o1_operation_products_cells h_o1_operation_quotients_cells h_o1_braid_crossings h_o1_weights_values h_o1_weights_values_cells f_total a_top a_colors f_o1_operation_size f_o1_operation_badColumn a_o1_operation_products_cells a_o1_operation_quotients_cells f_o1_braid_strands f_o1_braid_count a_o1_braid_crossings f_o1_weights_modulus a_o1_weights_values_cells) s.heap := hP
  refine lv_aload_n hx hb dX7_countWithTotal_0 rfl (lv_at hl 0 rfl) ?_
  refine lv_aload_n hx hb dX7_countWithTotal_1 rfl (lv_at hl 1 rfl) ?_
  have hC9 : ([0, 1, 3, 4, 9]).map (fun i => (wd_X7_countWithTotal G h_this h_top h_colors h_o1 h_o1_operation h_o1_braid h_o1_weights h_o1_operation_products h_o1_operation_quotients h_o1_operation_products_cells h_o1_operation_quotients_cells h_o1_braid_crossings h_o1_weights_values h_o1_weights_values_cells f_total a_top a_colors f_o1_operation_size f_o1_operation_badColumn a_o1_operation_products_cells a_o1_operation_quotients_cells f_o1_braid_strands f_o1_braid_count a_o1_braid_crossings f_o1_weights_modulus a_o1_weights_values_cells)[i]?) = (wd_X7_startAtFirst G h_this h_top h_colors h_o1 h_o1_operation h_o1_braid h_o1_weights h_o1_operation_products h_o1_operation_quotients h_o1_braid_crossings f_total a_top f_o1_operation_size f_o1_operation_badColumn f_o1_braid_strands f_o1_braid_count).map some := rfl
  refine qn_callI (wd := (fun u : (Nat → Int32) => wd_X7_countWithTotal G h_this h_top h_colors h_o1 h_o1_operation h_o1_braid h_o1_weights h_o1_operation_products h_o1_operation_quotients h_o1_operation_products_cells h_o1_operation_quotients_cells h_o1_braid_crossings h_o1_weights_values h_o1_weights_values_cells f_total u a_colors f_o1_operation_size f_o1_operation_badColumn a_o1_operation_products_cells a_o1_operation_quotients_cells f_o1_braid_strands f_o1_braid_count a_o1_braid_crossings f_o1_weights_modulus a_o1_weights_values_cells)) [0, 1, 3, 4, 9] (va_runV (As := [.ref h_o1]) (rest := []) ⟨hx, hb, hml, hown, hts⟩ (c_X7_startAtFirst G _ h_this h_top h_colors h_o1 h_o1_operation h_o1_braid h_o1_weights h_o1_operation_products h_o1_operation_quotients h_o1_braid_crossings f_total a_top f_o1_operation_size f_o1_operation_badColumn f_o1_braid_strands f_o1_braid_count hw) (cwV 1 hts gX7_countWithTotal_X7_startAtFirst rfl rfl rfl (by decide +kernel) ⟨Nat.le_of_ble_eq_true rfl, Nat.le_of_ble_eq_true rfl⟩) (qn_preV hE hP hD [0, 1, 3, 4, 9] hC9 (by decide +kernel) (ci := 7) rfl rfl) rfl rfl hl.1 rfl (lv_room (Nat.le_of_ble_eq_true rfl)) dX7_countWithTotal_2 ⟨Nat.le_of_ble_eq_true rfl, Nat.le_of_ble_eq_true rfl⟩) hP hD hS hA hC9 [some 0, some 1, none, some 2, some 3, none, none, none, none, some 4, none, none, none, none] (M := 14) rfl (by decide +kernel) (fun _ => rfl) (fun _ => rfl) (fun r_2 a_top_1 H locs hw hP hD hS => ?_)
  try dsimp only at hw
  have hP : va_P G.1 vwCl (wd_X7_countWithTotal G h_this h_top h_colors h_o1 h_o1_operation h_o1_braid h_o1_weights h_o1_operation_products h_o1_operation_quotients h_o1_operation_products_cells h_o1_operation_quotients_cells h_o1_braid_crossings h_o1_weights_values h_o1_weights_values_cells f_total a_top_1 a_colors f_o1_operation_size f_o1_operation_badColumn a_o1_operation_products_cells a_o1_operation_quotients_cells f_o1_braid_strands f_o1_braid_count a_o1_braid_crossings f_o1_weights_modulus a_o1_weights_values_cells) H := hP
  have hD : va_D A (wd_X7_countWithTotal G h_this h_top h_colors h_o1 h_o1_operation h_o1_braid h_o1_weights h_o1_operation_products h_o1_operation_quotients h_o1_operation_products_cells h_o1_operation_quotients_cells h_o1_braid_crossings h_o1_weights_values h_o1_weights_values_cells f_total a_top_1 a_colors f_o1_operation_size f_o1_operation_badColumn a_o1_operation_products_cells a_o1_operation_quotients_cells f_o1_braid_strands f_o1_braid_count a_o1_braid_crossings f_o1_weights_modulus a_o1_weights_values_cells) := hD
  refine lv_istore_n (lv' := [(3, .int r_2), (0, .ref h_this), (1, .ref h_o1), (2, .int x2)]) hx hb dX7_countWithTotal_5 rfl hl (by decide) rfl (fun ls hl => ?_)
  refine lv_iconst (v := 0) hx hb dX7_countWithTotal_6 (by decide) ?_
  refine lv_istore (lv' := [(4, .int 0), (3, .int r_2), (0, .ref h_this), (1, .ref h_o1), (2, .int x2)]) hx hb dX7_countWithTotal_7 hl (by decide) rfl (fun ls hl => ?_)
  refine lv_iconst (v := 0) hx hb dX7_countWithTotal_9 (by decide) ?_
  refine lv_istore (lv' := [(5, .int 0), (4, .int 0), (3, .int r_2), (0, .ref h_this), (1, .ref h_o1), (2, .int x2)]) hx hb dX7_countWithTotal_10 hl (by decide) rfl (fun ls hl => ?_)
  obtain ⟨fu_23, hw⟩ := hw
  refine l_X7_countWithTotal_12 (post := post) C0 hE hA (fun x4_19 f_total_20 a_top_21 a_colors_22 hw H locs ls hP hD hS hl => ?_) fu_23 0 0 f_total a_top_1 a_colors hw _ _ _ hP hD hS (lv_sub hl [3, 4, 5, 2, 1, 0] rfl)
  refine lv_iload hx hb dX7_countWithTotal_48 (lv_at hl 0 rfl) ?_
  exact W.iret (v := x4_19) hx hb hr (fun t ht hW => ⟨⟨x4_19, (f_total_20, a_top_21, a_colors_22), rfl, hw, by rw [ht]; exact hP, hD⟩, hS.F ht⟩) hS.2.2 dX7_countWithTotal_50
-- QuandleColorings$Tracer.firstFrom(LQuandleColorings$State;I)I
abbrev rm_X7_firstFrom : Room := { frames := 5, cells := 0, slots := 0, locals := 113 }
abbrev wd_X7_firstFrom (G : qn_G) (h_this h_top h_colors h_o1 h_o1_operation h_o1_braid h_o1_weights h_o1_operation_products h_o1_operation_quotients h_o1_operation_products_cells h_o1_operation_quotients_cells h_o1_braid_crossings h_o1_weights_values h_o1_weights_values_cells : Nat) (f_total : Int32) (a_top : Nat → Int32) (a_colors : Nat → Int32) (f_o1_operation_size : Int32) (f_o1_operation_badColumn : Int32) (a_o1_operation_products_cells : Nat → Int32) (a_o1_operation_quotients_cells : Nat → Int32) (f_o1_braid_strands : Int32) (f_o1_braid_count : Int32) (a_o1_braid_crossings : Nat → Int32) (f_o1_weights_modulus : Int32) (a_o1_weights_values_cells : Nat → Int32) : va_W := [(h_this, .inr (7, [.ref h_top, .ref h_colors, .int f_total])), (h_top, .inl (G.2.1, 4, .inl a_top)), (h_colors, .inl (G.2.1, 4, .inl a_colors)), (h_o1, .inr (6, [.ref h_o1_operation, .ref h_o1_braid, .ref h_o1_weights])), (h_o1_operation, .inr (5, [.int f_o1_operation_size, .ref h_o1_operation_products, .ref h_o1_operation_quotients, .int f_o1_operation_badColumn])), (h_o1_operation_products, .inr (2, [.ref h_o1_operation_products_cells])), (h_o1_operation_products_cells, .inl (G.2.1, 36, .inl a_o1_operation_products_cells)), (h_o1_operation_quotients, .inr (2, [.ref h_o1_operation_quotients_cells])), (h_o1_operation_quotients_cells, .inl (G.2.1, 36, .inl a_o1_operation_quotients_cells)), (h_o1_braid, .inr (1, [.int f_o1_braid_strands, .int f_o1_braid_count, .ref h_o1_braid_crossings])), (h_o1_braid_crossings, .inl (G.2.1, 12, .inl a_o1_braid_crossings)), (h_o1_weights, .inr (8, [.int f_o1_weights_modulus, .ref h_o1_weights_values])), (h_o1_weights_values, .inr (2, [.ref h_o1_weights_values_cells])), (h_o1_weights_values_cells, .inl (G.2.1, 36, .inl a_o1_weights_values_cells))]
def wp_X7_firstFrom_J32 (BL9 : Int32 → Int32 → (Nat → Int32) → (Nat → Int32) → Prop) (x4 : Int32) (f_total : Int32) (a_top : Nat → Int32) (a_colors : Nat → Int32) (f_o1_operation_size : Int32) (f_o1_braid_strands : Int32) : Prop := (wp_X7_advance (fun (a_top_5 : Nat → Int32) => (∀ x4_6 : Int32, x4_6 = x4 + 1 → (BL9 x4_6 f_total a_top_5 a_colors))) a_top f_o1_operation_size f_o1_braid_strands)
def wp_X7_firstFrom_L9 (post : Int32 → Int32 → (Nat → Int32) → (Nat → Int32) → Prop) (KL9 : Int32 → (Nat → Int32) → (Nat → Int32) → Prop) (x2 : Int32) (x3 : Int32) (f_o1_operation_size : Int32) (a_o1_operation_products_cells : Nat → Int32) (a_o1_operation_quotients_cells : Nat → Int32) (f_o1_braid_strands : Int32) (f_o1_braid_count : Int32) (a_o1_braid_crossings : Nat → Int32) (f_o1_weights_modulus : Int32) (a_o1_weights_values_cells : Nat → Int32) : Nat → Int32 → Int32 → (Nat → Int32) → (Nat → Int32) → Prop
  | 0 => fun _ _ _ _ => False
  | fu + 1 => fun x4 f_total a_top a_colors => ((x3 ≤ x4 → (KL9 f_total a_top a_colors)) ∧ (¬ x3 ≤ x4 → ((x4 < x2 → (wp_X7_firstFrom_J32 (wp_X7_firstFrom_L9 post KL9 x2 x3 f_o1_operation_size a_o1_operation_products_cells a_o1_operation_quotients_cells f_o1_braid_strands f_o1_braid_count a_o1_braid_crossings f_o1_weights_modulus a_o1_weights_values_cells fu) x4 f_total a_top a_colors f_o1_operation_size f_o1_braid_strands)) ∧ (¬ x4 < x2 → (wp_X7_closes (fun (r_11 : Int32) (f_total_9 : Int32) (a_colors_10 : Nat → Int32) => ((r_11 = 0 → (wp_X7_firstFrom_J32 (wp_X7_firstFrom_L9 post KL9 x2 x3 f_o1_operation_size a_o1_operation_products_cells a_o1_operation_quotients_cells f_o1_braid_strands f_o1_braid_count a_o1_braid_crossings f_o1_weights_modulus a_o1_weights_values_cells fu) x4 f_total_9 a_top a_colors_10 f_o1_operation_size f_o1_braid_strands)) ∧ (¬ r_11 = 0 → (post x4 f_total_9 a_top a_colors_10)))) a_top a_colors a_o1_operation_products_cells a_o1_operation_quotients_cells f_o1_braid_count a_o1_braid_crossings f_o1_weights_modulus a_o1_weights_values_cells)))))
def wp_X7_firstFrom (post : Int32 → Int32 → (Nat → Int32) → (Nat → Int32) → Prop) (f_total : Int32) (a_top : Nat → Int32) (a_colors : Nat → Int32) (f_o1_operation_size : Int32) (a_o1_operation_products_cells : Nat → Int32) (a_o1_operation_quotients_cells : Nat → Int32) (f_o1_braid_strands : Int32) (f_o1_braid_count : Int32) (a_o1_braid_crossings : Nat → Int32) (f_o1_weights_modulus : Int32) (a_o1_weights_values_cells : Nat → Int32) (x2 : Int32) : Prop := (wp_X7_startAtFirst (fun (r_2 : Int32) (a_top_1 : Nat → Int32) => (∃ fu_19 : Nat, wp_X7_firstFrom_L9 post (fun (f_total_16 : Int32) (a_top_17 : Nat → Int32) (a_colors_18 : Nat → Int32) => (post (-4) f_total_16 a_top_17 a_colors_18)) x2 r_2 f_o1_operation_size a_o1_operation_products_cells a_o1_operation_quotients_cells f_o1_braid_strands f_o1_braid_count a_o1_braid_crossings f_o1_weights_modulus a_o1_weights_values_cells fu_19 0 f_total a_top_1 a_colors)) a_top f_o1_operation_size f_o1_braid_strands)
set_option maxHeartbeats 4000000 in
set_option maxRecDepth 100000 in
theorem l_X7_firstFrom_9 {p : Program} {l : Launch} {e : Env} {s : State} {m : MethodId} {args : Array Value} {below : List Frame} {meth : Method} {c : Code} {G : qn_G} {A : Nat → Prop} {h_this h_top h_colors h_o1 h_o1_operation h_o1_braid h_o1_weights h_o1_operation_products h_o1_operation_quotients h_o1_operation_products_cells h_o1_operation_quotients_cells h_o1_braid_crossings h_o1_weights_values h_o1_weights_values_cells : Nat} {f_o1_operation_size : Int32} {f_o1_operation_badColumn : Int32} {a_o1_operation_products_cells : Nat → Int32} {a_o1_operation_quotients_cells : Nat → Int32} {f_o1_braid_strands : Int32} {f_o1_braid_count : Int32} {a_o1_braid_crossings : Nat → Int32} {f_o1_weights_modulus : Int32} {a_o1_weights_values_cells : Nat → Int32} {x2 : Int32} {x3 : Int32} {post : Int32 → Int32 → (Nat → Int32) → (Nat → Int32) → Prop} {KL9 : Int32 → (Nat → Int32) → (Nat → Int32) → Prop} (C0 : qn_C p m c cX7_firstFrom 5 s args wsX7_firstFrom RX7 meth (some .int)) (hE : qn_EV G s) (hA : ∀ q, s.heap.size ≤ q → A q) (hKc : ∀ (f_total : Int32) (a_top : Nat → Int32) (a_colors : Nat → Int32), KL9 f_total a_top a_colors → ∀ (H : Heap) (locs : List Loc) (ls : Array Slot), va_P G.1 vwCl (wd_X7_firstFrom G h_this h_top h_colors h_o1 h_o1_operation h_o1_braid h_o1_weights h_o1_operation_products h_o1_operation_quotients h_o1_operation_products_cells h_o1_operation_quotients_cells h_o1_braid_crossings h_o1_weights_values h_o1_weights_values_cells f_total a_top a_colors f_o1_operation_size f_o1_operation_badColumn a_o1_operation_products_cells a_o1_operation_quotients_cells f_o1_braid_strands f_o1_braid_count a_o1_braid_crossings f_o1_weights_modulus a_o1_weights_values_cells) H → va_D A (wd_X7_firstFrom G h_this h_top h_colors h_o1 h_o1_operation h_o1_braid h_o1_weights h_o1_operation_products h_o1_operation_quotients h_o1_operation_products_cells h_o1_operation_quotients_cells h_o1_braid_crossings h_o1_weights_values h_o1_weights_values_cells f_total a_top a_colors f_o1_operation_size f_o1_operation_badColumn a_o1_operation_products_cells a_o1_operation_quotients_cells f_o1_braid_strands f_o1_braid_count a_o1_braid_crossings f_o1_weights_modulus a_o1_weights_values_cells) → va_S A s.heap H locs → lv_has ls 5 [] → W p l e (headSpec wsX7_firstFrom rm_X7_firstFrom).room s m args below meth c H locs 0 0 (MQ below (qn_QI G (fun (r : Int32) (u : Int32 × (Nat → Int32) × (Nat → Int32)) => post r u.1 u.2.1 u.2.2) (fun u : Int32 × (Nat → Int32) × (Nat → Int32) => wd_X7_firstFrom G h_this h_top h_colors h_o1 h_o1_operation h_o1_braid h_o1_weights h_o1_operation_products h_o1_operation_quotients h_o1_operation_products_cells h_o1_operation_quotients_cells h_o1_braid_crossings h_o1_weights_values h_o1_weights_values_cells (u.1) (u.2.1) (u.2.2) f_o1_operation_size f_o1_operation_badColumn a_o1_operation_products_cells a_o1_operation_quotients_cells f_o1_braid_strands f_o1_braid_count a_o1_braid_crossings f_o1_weights_modulus a_o1_weights_values_cells) A) args s 0 0 A) (F0 m 43 ls [])) :
    ∀ (fu : Nat) (x4 : Int32) (f_total : Int32) (a_top : Nat → Int32) (a_colors : Nat → Int32), wp_X7_firstFrom_L9 post KL9 x2 x3 f_o1_operation_size a_o1_operation_products_cells a_o1_operation_quotients_cells f_o1_braid_strands f_o1_braid_count a_o1_braid_crossings f_o1_weights_modulus a_o1_weights_values_cells fu x4 f_total a_top a_colors → ∀ (H : Heap) (locs : List Loc) (ls : Array Slot), va_P G.1 vwCl (wd_X7_firstFrom G h_this h_top h_colors h_o1 h_o1_operation h_o1_braid h_o1_weights h_o1_operation_products h_o1_operation_quotients h_o1_operation_products_cells h_o1_operation_quotients_cells h_o1_braid_crossings h_o1_weights_values h_o1_weights_values_cells f_total a_top a_colors f_o1_operation_size f_o1_operation_badColumn a_o1_operation_products_cells a_o1_operation_quotients_cells f_o1_braid_strands f_o1_braid_count a_o1_braid_crossings f_o1_weights_modulus a_o1_weights_values_cells) H → va_D A (wd_X7_firstFrom G h_this h_top h_colors h_o1 h_o1_operation h_o1_braid h_o1_weights h_o1_operation_products h_o1_operation_quotients h_o1_operation_products_cells h_o1_operation_quotients_cells h_o1_braid_crossings h_o1_weights_values h_o1_weights_values_cells f_total a_top a_colors f_o1_operation_size f_o1_operation_badColumn a_o1_operation_products_cells a_o1_operation_quotients_cells f_o1_braid_strands f_o1_braid_count a_o1_braid_crossings f_o1_weights_modulus a_o1_weights_values_cells) → va_S A s.heap H locs → lv_has ls 5 [(0, .ref h_this), (1, .ref h_o1), (2, .int x2), (3, .int x3), (4, .int x4)] → W p l e (headSpec wsX7_firstFrom rm_X7_firstFrom).room s m args below meth c H locs 0 0 (MQ below (qn_QI G (fun (r : Int32) (u : Int32 × (Nat → Int32) × (Nat → Int32)) => post r u.1 u.2.1 u.2.2) (fun u : Int32 × (Nat → Int32) × (Nat → Int32) => wd_X7_firstFrom G h_this h_top h_colors h_o1 h_o1_operation h_o1_braid h_o1_weights h_o1_operation_products h_o1_operation_quotients h_o1_operation_products_cells h_o1_operation_quotients_cells h_o1_braid_crossings h_o1_weights_values h_o1_weights_values_cells (u.1) (u.2.1) (u.2.2) f_o1_operation_size f_o1_operation_badColumn a_o1_operation_products_cells a_o1_operation_quotients_cells f_o1_braid_strands f_o1_braid_count a_o1_braid_crossings f_o1_weights_modulus a_o1_weights_values_cells) A) args s 0 0 A) (F0 m 9 ls []) := by
  obtain ⟨hx, hb, hml, hown, hts, hr, hlocks⟩ := id C0
  intro fu
  induction fu with
  | zero => intro x4 f_total a_top a_colors hw; exact hw.elim
  | succ fu ih =>
    intro x4 f_total a_top a_colors hw H locs ls hP hD hS hl
    refine lv_iload hx hb dX7_firstFrom_9 (lv_at hl 4 rfl) ?_
    refine lv_iload_n hx hb dX7_firstFrom_11 rfl (lv_at hl 3 rfl) ?_
    refine lv_icmp_ge (tgt := 43) hx hb dX7_firstFrom_12 (by decide) (fun c_3 => ?_) (fun c_3 => ?_)
    · have hw := hw.1 c_3
      exact hKc f_total a_top a_colors hw _ _ _ hP hD hS (lv_sub hl [] rfl)
    · have hw := hw.2 c_3
      refine lv_iload hx hb dX7_firstFrom_15 (lv_at hl 4 rfl) ?_
      refine lv_iload_n hx hb dX7_firstFrom_17 rfl (lv_at hl 2 rfl) ?_
      refine lv_icmp_lt (tgt := 32) hx hb dX7_firstFrom_18 (by decide) (fun c_4 => ?_) (fun c_4 => ?_)
      · have hw := hw.1 c_4
        refine lv_aload_n hx hb dX7_firstFrom_32 rfl (lv_at hl 0 rfl) ?_
        refine lv_aload_n hx hb dX7_firstFrom_33 rfl (lv_at hl 1 rfl) ?_
        have hC9 : ([0, 1, 3, 4, 9]).map (fun i => (wd_X7_firstFrom G h_this h_top h_colors h_o1 h_o1_operation h_o1_braid h_o1_weights h_o1_operation_products h_o1_operation_quotients h_o1_operation_products_cells h_o1_operation_quotients_cells h_o1_braid_crossings h_o1_weights_values h_o1_weights_values_cells f_total a_top a_colors f_o1_operation_size f_o1_operation_badColumn a_o1_operation_products_cells a_o1_operation_quotients_cells f_o1_braid_strands f_o1_braid_count a_o1_braid_crossings f_o1_weights_modulus a_o1_weights_values_cells)[i]?) = (wd_X7_advance G h_this h_top h_colors h_o1 h_o1_operation h_o1_braid h_o1_weights h_o1_operation_products h_o1_operation_quotients h_o1_braid_crossings f_total a_top f_o1_operation_size f_o1_operation_badColumn f_o1_braid_strands f_o1_braid_count).map some := rfl
        refine qn_callV (wd := (fun u : (Nat → Int32) => wd_X7_firstFrom G h_this h_top h_colors h_o1 h_o1_operation h_o1_braid h_o1_weights h_o1_operation_products h_o1_operation_quotients h_o1_operation_products_cells h_o1_operation_quotients_cells h_o1_braid_crossings h_o1_weights_values h_o1_weights_values_cells f_total u a_colors f_o1_operation_size f_o1_operation_badColumn a_o1_operation_products_cells a_o1_operation_quotients_cells f_o1_braid_strands f_o1_braid_count a_o1_braid_crossings f_o1_weights_modulus a_o1_weights_values_cells)) [0, 1, 3, 4, 9] (va_runV (As := [.ref h_o1]) (rest := []) ⟨hx, hb, hml, hown, hts⟩ (c_X7_advance G _ h_this h_top h_colors h_o1 h_o1_operation h_o1_braid h_o1_weights h_o1_operation_products h_o1_operation_quotients h_o1_braid_crossings f_total a_top f_o1_operation_size f_o1_operation_badColumn f_o1_braid_strands f_o1_braid_count hw) (cwV 1 hts gX7_firstFrom_X7_advance rfl rfl rfl (by decide +kernel) ⟨Nat.le_of_ble_eq_true rfl, Nat.le_of_ble_eq_true rfl⟩) (qn_preV hE hP hD [0, 1, 3, 4, 9] hC9 (by decide +kernel) (ci := 7) rfl rfl) rfl rfl hl.1 rfl (lv_room (Nat.le_of_ble_eq_true rfl)) dX7_firstFrom_34 ⟨Nat.le_of_ble_eq_true rfl, Nat.le_of_ble_eq_true rfl⟩) hP hD hS hA hC9 [some 0, some 1, none, some 2, some 3, none, none, none, none, some 4, none, none, none, none] (M := 14) rfl (by decide +kernel) (fun _ => rfl) (fun _ => rfl) (fun a_top_7 H locs hw hP hD hS => ?_)
        try dsimp only at hw
        have hP : va_P G.1 vwCl (wd_X7_firstFrom G h_this h_top h_colors h_o1 h_o1_operation h_o1_braid h_o1_weights h_o1_operation_products h_o1_operation_quotients h_o1_operation_products_cells h_o1_operation_quotients_cells h_o1_braid_crossings h_o1_weights_values h_o1_weights_values_cells f_total a_top_7 a_colors f_o1_operation_size f_o1_operation_badColumn a_o1_operation_products_cells a_o1_operation_quotients_cells f_o1_braid_strands f_o1_braid_count a_o1_braid_crossings f_o1_weights_modulus a_o1_weights_values_cells) H := hP
        have hD : va_D A (wd_X7_firstFrom G h_this h_top h_colors h_o1 h_o1_operation h_o1_braid h_o1_weights h_o1_operation_products h_o1_operation_quotients h_o1_operation_products_cells h_o1_operation_quotients_cells h_o1_braid_crossings h_o1_weights_values h_o1_weights_values_cells f_total a_top_7 a_colors f_o1_operation_size f_o1_operation_badColumn a_o1_operation_products_cells a_o1_operation_quotients_cells f_o1_braid_strands f_o1_braid_count a_o1_braid_crossings f_o1_weights_modulus a_o1_weights_values_cells) := hD
        obtain ⟨x4_8, ex4_8⟩ : ∃ y : Int32, y = x4 + 1 := ⟨_, rfl⟩
        have hw := hw x4_8 ex4_8
        refine lv_iinc (v := x4_8) (lv' := [(4, .int x4_8), (0, .ref h_this), (1, .ref h_o1), (2, .int x2), (3, .int x3)]) hx hb dX7_firstFrom_37 hl (k := 4) rfl (by rw [ex4_8]; rfl) (by decide) rfl (fun ls hl => ?_)
        refine lv_goto (tgt := 9) hx hb dX7_firstFrom_40 (by decide) ?_
        exact ih x4_8 f_total a_top_7 a_colors hw _ _ _ hP hD hS (lv_sub hl [1, 2, 3, 4, 0] rfl)
      · have hw := hw.2 c_4
        refine lv_aload_n hx hb dX7_firstFrom_21 rfl (lv_at hl 0 rfl) ?_
        refine lv_aload_n hx hb dX7_firstFrom_22 rfl (lv_at hl 1 rfl) ?_
        have hC9 : ([0, 1, 2, 3, 4, 5, 6, 7, 8, 9, 10, 11, 12, 13]).map (fun i => (wd_X7_firstFrom G h_this h_top h_colors h_o1 h_o1_operation h_o1_braid h_o1_weights h_o1_operation_products h_o1_operation_quotients h_o1_operation_products_cells h_o1_operation_quotients_cells h_o1_braid_crossings h_o1_weights_values h_o1_weights_values_cells f_total a_top a_colors f_o1_operation_size f_o1_operation_badColumn a_o1_operation_products_cells a_o1_operation_quotients_cells f_o1_braid_strands f_o1_braid_count a_o1_braid_crossings f_o1_weights_modulus a_o1_weights_values_cells)[i]?) = (wd_X7_closes G h_this h_top h_colors h_o1 h_o1_operation h_o1_braid h_o1_weights h_o1_operation_products h_o1_operation_quotients h_o1_operation_products_cells h_o1_operation_quotients_cells h_o1_braid_crossings h_o1_weights_values h_o1_weights_values_cells f_total a_top a_colors f_o1_operation_size f_o1_operation_badColumn a_o1_operation_products_cells a_o1_operation_quotients_cells f_o1_braid_strands f_o1_braid_count a_o1_braid_crossings f_o1_weights_modulus a_o1_weights_values_cells).map some := rfl
        refine qn_callI (wd := (fun u : Int32 × (Nat → Int32) => wd_X7_firstFrom G h_this h_top h_colors h_o1 h_o1_operation h_o1_braid h_o1_weights h_o1_operation_products h_o1_operation_quotients h_o1_operation_products_cells h_o1_operation_quotients_cells h_o1_braid_crossings h_o1_weights_values h_o1_weights_values_cells (u.1) a_top (u.2) f_o1_operation_size f_o1_operation_badColumn a_o1_operation_products_cells a_o1_operation_quotients_cells f_o1_braid_strands f_o1_braid_count a_o1_braid_crossings f_o1_weights_modulus a_o1_weights_values_cells)) [0, 1, 2, 3, 4, 5, 6, 7, 8, 9, 10, 11, 12, 13] (va_runV (As := [.ref h_o1]) (rest := []) ⟨hx, hb, hml, hown, hts⟩ (c_X7_closes G _ h_this h_top h_colors h_o1 h_o1_operation h_o1_braid h_o1_weights h_o1_operation_products h_o1_operation_quotients h_o1_operation_products_cells h_o1_operation_quotients_cells h_o1_braid_crossings h_o1_weights_values h_o1_weights_values_cells f_total a_top a_colors f_o1_operation_size f_o1_operation_badColumn a_o1_operation_products_cells a_o1_operation_quotients_cells f_o1_braid_strands f_o1_braid_count a_o1_braid_crossings f_o1_weights_modulus a_o1_weights_values_cells hw) (cwV 1 hts gX7_firstFrom_X7_closes rfl rfl rfl (by decide +kernel) ⟨Nat.le_of_ble_eq_true rfl, Nat.le_of_ble_eq_true rfl⟩) (qn_preV hE hP hD [0, 1, 2, 3, 4, 5, 6, 7, 8, 9, 10, 11, 12, 13] hC9 (by decide +kernel) (ci := 7) rfl rfl) rfl rfl hl.1 rfl (lv_room (Nat.le_of_ble_eq_true rfl)) dX7_firstFrom_23 ⟨Nat.le_of_ble_eq_true rfl, Nat.le_of_ble_eq_true rfl⟩) hP hD hS hA hC9 [some 0, some 1, some 2, some 3, some 4, some 5, some 6, some 7, some 8, some 9, some 10, some 11, some 12, some 13] (M := 14) rfl (by decide +kernel) (fun _ => rfl) (fun _ => rfl) (fun r_11 u_12 H locs hw hP hD hS => ?_)
        obtain ⟨f_total_9, a_colors_10⟩ := u_12
        try dsimp only at hw
        have hP : va_P G.1 vwCl (wd_X7_firstFrom G h_this h_top h_colors h_o1 h_o1_operation h_o1_braid h_o1_weights h_o1_operation_products h_o1_operation_quotients h_o1_operation_products_cells h_o1_operation_quotients_cells h_o1_braid_crossings h_o1_weights_values h_o1_weights_values_cells f_total_9 a_top a_colors_10 f_o1_operation_size f_o1_operation_badColumn a_o1_operation_products_cells a_o1_operation_quotients_cells f_o1_braid_strands f_o1_braid_count a_o1_braid_crossings f_o1_weights_modulus a_o1_weights_values_cells) H := hP
        have hD : va_D A (wd_X7_firstFrom G h_this h_top h_colors h_o1 h_o1_operation h_o1_braid h_o1_weights h_o1_operation_products h_o1_operation_quotients h_o1_operation_products_cells h_o1_operation_quotients_cells h_o1_braid_crossings h_o1_weights_values h_o1_weights_values_cells f_total_9 a_top a_colors_10 f_o1_operation_size f_o1_operation_badColumn a_o1_operation_products_cells a_o1_operation_quotients_cells f_o1_braid_strands f_o1_braid_count a_o1_braid_crossings f_o1_weights_modulus a_o1_weights_values_cells) := hD
        refine lv_if_eq (tgt := 32) hx hb dX7_firstFrom_26 (by decide) (fun c_13 => ?_) (fun c_13 => ?_)
        · have hw := hw.1 c_13
          refine lv_aload_n hx hb dX7_firstFrom_32 rfl (lv_at hl 0 rfl) ?_
          refine lv_aload_n hx hb dX7_firstFrom_33 rfl (lv_at hl 1 rfl) ?_
          have hC9 : ([0, 1, 3, 4, 9]).map (fun i => (wd_X7_firstFrom G h_this h_top h_colors h_o1 h_o1_operation h_o1_braid h_o1_weights h_o1_operation_products h_o1_operation_quotients h_o1_operation_products_cells h_o1_operation_quotients_cells h_o1_braid_crossings h_o1_weights_values h_o1_weights_values_cells f_total_9 a_top a_colors_10 f_o1_operation_size f_o1_operation_badColumn a_o1_operation_products_cells a_o1_operation_quotients_cells f_o1_braid_strands f_o1_braid_count a_o1_braid_crossings f_o1_weights_modulus a_o1_weights_values_cells)[i]?) = (wd_X7_advance G h_this h_top h_colors h_o1 h_o1_operation h_o1_braid h_o1_weights h_o1_operation_products h_o1_operation_quotients h_o1_braid_crossings f_total_9 a_top f_o1_operation_size f_o1_operation_badColumn f_o1_braid_strands f_o1_braid_count).map some := rfl
          refine qn_callV (wd := (fun u : (Nat → Int32) => wd_X7_firstFrom G h_this h_top h_colors h_o1 h_o1_operation h_o1_braid h_o1_weights h_o1_operation_products h_o1_operation_quotients h_o1_operation_products_cells h_o1_operation_quotients_cells h_o1_braid_crossings h_o1_weights_values h_o1_weights_values_cells f_total_9 u a_colors_10 f_o1_operation_size f_o1_operation_badColumn a_o1_operation_products_cells a_o1_operation_quotients_cells f_o1_braid_strands f_o1_braid_count a_o1_braid_crossings f_o1_weights_modulus a_o1_weights_values_cells)) [0, 1, 3, 4, 9] (va_runV (As := [.ref h_o1]) (rest := []) ⟨hx, hb, hml, hown, hts⟩ (c_X7_advance G _ h_this h_top h_colors h_o1 h_o1_operation h_o1_braid h_o1_weights h_o1_operation_products h_o1_operation_quotients h_o1_braid_crossings f_total_9 a_top f_o1_operation_size f_o1_operation_badColumn f_o1_braid_strands f_o1_braid_count hw) (cwV 1 hts gX7_firstFrom_X7_advance rfl rfl rfl (by decide +kernel) ⟨Nat.le_of_ble_eq_true rfl, Nat.le_of_ble_eq_true rfl⟩) (qn_preV hE hP hD [0, 1, 3, 4, 9] hC9 (by decide +kernel) (ci := 7) rfl rfl) rfl rfl hl.1 rfl (lv_room (Nat.le_of_ble_eq_true rfl)) dX7_firstFrom_34 ⟨Nat.le_of_ble_eq_true rfl, Nat.le_of_ble_eq_true rfl⟩) hP hD hS hA hC9 [some 0, some 1, none, some 2, some 3, none, none, none, none, some 4, none, none, none, none] (M := 14) rfl (by decide +kernel) (fun _ => rfl) (fun _ => rfl) (fun a_top_14 H locs hw hP hD hS => ?_)
          try dsimp only at hw
          have hP : va_P G.1 vwCl (wd_X7_firstFrom G h_this h_top h_colors h_o1 h_o1_operation h_o1_braid h_o1_weights h_o1_operation_products h_o1_operation_quotients h_o1_operation_products_cells h_o1_operation_quotients_cells h_o1_braid_crossings h_o1_weights_values h_o1_weights_values_cells f_total_9 a_top_14 a_colors_10 f_o1_operation_size f_o1_operation_badColumn a_o1_operation_products_cells a_o1_operation_quotients_cells f_o1_braid_strands f_o1_braid_count a_o1_braid_crossings f_o1_weights_modulus a_o1_weights_values_cells) H := hP
          have hD : va_D A (wd_X7_firstFrom G h_this h_top h_colors h_o1 h_o1_operation h_o1_braid h_o1_weights h_o1_operation_products h_o1_operation_quotients h_o1_operation_products_cells h_o1_operation_quotients_cells h_o1_braid_crossings h_o1_weights_values h_o1_weights_values_cells f_total_9 a_top_14 a_colors_10 f_o1_operation_size f_o1_operation_badColumn a_o1_operation_products_cells a_o1_operation_quotients_cells f_o1_braid_strands f_o1_braid_count a_o1_braid_crossings f_o1_weights_modulus a_o1_weights_values_cells) := hD
          obtain ⟨x4_15, ex4_15⟩ : ∃ y : Int32, y = x4 + 1 := ⟨_, rfl⟩
          have hw := hw x4_15 ex4_15
          refine lv_iinc (v := x4_15) (lv' := [(4, .int x4_15), (0, .ref h_this), (1, .ref h_o1), (2, .int x2), (3, .int x3)]) hx hb dX7_firstFrom_37 hl (k := 4) rfl (by rw [ex4_15]; rfl) (by decide) rfl (fun ls hl => ?_)
          refine lv_goto (tgt := 9) hx hb dX7_firstFrom_40 (by decide) ?_
          exact ih x4_15 f_total_9 a_top_14 a_colors_10 hw _ _ _ hP hD hS (lv_sub hl [1, 2, 3, 4, 0] rfl)
        · have hw := hw.2 c_13
          refine lv_iload hx hb dX7_firstFrom_29 (lv_at hl 4 rfl) ?_
          exact W.iret (v := x4) hx hb hr (fun t ht hW => ⟨⟨x4, (f_total_9, a_top, a_colors_10), rfl, hw, by rw [ht]; exact hP, hD⟩, hS.F ht⟩) hS.2.2 dX7_firstFrom_31
set_option maxHeartbeats 4000000 in
set_option maxRecDepth 100000 in
theorem c_X7_firstFrom {l : Launch} (G : qn_G) (sz : Nat) (h_this h_top h_colors h_o1 h_o1_operation h_o1_braid h_o1_weights h_o1_operation_products h_o1_operation_quotients h_o1_operation_products_cells h_o1_operation_quotients_cells h_o1_braid_crossings h_o1_weights_values h_o1_weights_values_cells : Nat) (f_total : Int32) (a_top : Nat → Int32) (a_colors : Nat → Int32) (f_o1_operation_size : Int32) (f_o1_operation_badColumn : Int32) (a_o1_operation_products_cells : Nat → Int32) (a_o1_operation_quotients_cells : Nat → Int32) (f_o1_braid_strands : Int32) (f_o1_braid_count : Int32) (a_o1_braid_crossings : Nat → Int32) (f_o1_weights_modulus : Int32) (a_o1_weights_values_cells : Nat → Int32) (x2 : Int32) {post : Int32 → Int32 → (Nat → Int32) → (Nat → Int32) → Prop} (hw : wp_X7_firstFrom post f_total a_top a_colors f_o1_operation_size a_o1_operation_products_cells a_o1_operation_quotients_cells f_o1_braid_strands f_o1_braid_count a_o1_braid_crossings f_o1_weights_modulus a_o1_weights_values_cells x2) : Met l yX7_firstFrom wsX7_firstFrom rm_X7_firstFrom (qn_PC G [.ref h_this, .ref h_o1, .int x2] sz (wd_X7_firstFrom G h_this h_top h_colors h_o1 h_o1_operation h_o1_braid h_o1_weights h_o1_operation_products h_o1_operation_quotients h_o1_operation_products_cells h_o1_operation_quotients_cells h_o1_braid_crossings h_o1_weights_values h_o1_weights_values_cells f_total a_top a_colors f_o1_operation_size f_o1_operation_badColumn a_o1_operation_products_cells a_o1_operation_quotients_cells f_o1_braid_strands f_o1_braid_count a_o1_braid_crossings f_o1_weights_modulus a_o1_weights_values_cells)) (qn_QI G (fun (r : Int32) (u : Int32 × (Nat → Int32) × (Nat → Int32)) => post r u.1 u.2.1 u.2.2) (fun u : Int32 × (Nat → Int32) × (Nat → Int32) => wd_X7_firstFrom G h_this h_top h_colors h_o1 h_o1_operation h_o1_braid h_o1_weights h_o1_operation_products h_o1_operation_quotients h_o1_operation_products_cells h_o1_operation_quotients_cells h_o1_braid_crossings h_o1_weights_values h_o1_weights_values_cells (u.1) (u.2.1) (u.2.2) f_o1_operation_size f_o1_operation_badColumn a_o1_operation_products_cells a_o1_operation_quotients_cells f_o1_braid_strands f_o1_braid_count a_o1_braid_crossings f_o1_weights_modulus a_o1_weights_values_cells) (va_A (wd_X7_firstFrom G h_this h_top h_colors h_o1 h_o1_operation h_o1_braid h_o1_weights h_o1_operation_products h_o1_operation_quotients h_o1_operation_products_cells h_o1_operation_quotients_cells h_o1_braid_crossings h_o1_weights_values h_o1_weights_values_cells f_total a_top a_colors f_o1_operation_size f_o1_operation_badColumn a_o1_operation_products_cells a_o1_operation_quotients_cells f_o1_braid_strands f_o1_braid_count a_o1_braid_crossings f_o1_weights_modulus a_o1_weights_values_cells) sz)) 0 0 (va_A (wd_X7_firstFrom G h_this h_top h_colors h_o1 h_o1_operation h_o1_braid h_o1_weights h_o1_operation_products h_o1_operation_quotients h_o1_operation_products_cells h_o1_operation_quotients_cells h_o1_braid_crossings h_o1_weights_values h_o1_weights_values_cells f_total a_top a_colors f_o1_operation_size f_o1_operation_badColumn a_o1_operation_products_cells a_o1_operation_quotients_cells f_o1_braid_strands f_o1_braid_count a_o1_braid_crossings f_o1_weights_modulus a_o1_weights_values_cells) sz) := by
  refine Met.ofW (cc := cX7_firstFrom) (maxL := 5) (ret := (some .int)) (by decide) rfl ?_
  intro p e s m args below meth c s₁ B hml hv
  obtain ⟨rfl, hsz, hP, hE, hD0⟩ := hv
  have C0 : qn_C p m c cX7_firstFrom 5 s _ wsX7_firstFrom RX7 meth (some .int) := qn_C0 B hml
  obtain ⟨hx, hb, -, hown, hts, hr, hlocks⟩ := id C0
  subst hsz
  have hD := hD0.self (sz := s.heap.size)
  generalize hAe : va_A (wd_X7_firstFrom G h_this h_top h_colors h_o1 h_o1_operation h_o1_braid h_o1_weights h_o1_operation_products h_o1_operation_quotients h_o1_operation_products_cells h_o1_operation_quotients_cells h_o1_braid_crossings h_o1_weights_values h_o1_weights_values_cells f_total a_top a_colors f_o1_operation_size f_o1_operation_badColumn a_o1_operation_products_cells a_o1_operation_quotients_cells f_o1_braid_strands f_o1_braid_count a_o1_braid_crossings f_o1_weights_modulus a_o1_weights_values_cells) s.heap.size = A at hD ⊢
  have hA : ∀ q : Nat, s.heap.size ≤ q → A q := fun q h => by rw [← hAe]; exact Or.inr h
  clear hAe
  have hS : va_S A s.heap s.heap [] := va_S.rf
  have hl := lv_entry ([.ref h_this, .ref h_o1, .int x2]) (n := 5) (Nat.le_of_ble_eq_true rfl)
  rw [lg_entry_eq]
  generalize (lg_sl ([.ref h_this, .ref h_o1, .int x2]) ++ List.replicate (5 - (lg_sl ([.ref h_this, .ref h_o1, .int x2])).length) Slot.unset).toArray = ls at hl ⊢
  have hl : lv_has ls 5 [(0, .ref h_this), (1, .ref h_o1), (2, .int x2)] := hl
  have hP : va_P G.1 vwCl (wd_X7_firstFrom G h_this h_top h_colors h_o1 h_o1_operation h_o1_braid h_o1_weights h_o1_operation_products h_o1_operation_quotients h_o1_operation_products_cells h_o1_operation_quotients_cells h_o1_braid_crossings h_o1_weights_values h_o1_weights_values_cells f_total a_top a_colors f_o1_operation_size f_o1_operation_badColumn a_o1_operation_products_cells a_o1_operation_quotients_cells f_o1_braid_strands f_o1_braid_count a_o1_braid_crossings f_o1_weights_modulus a_o1_weights_values_cells) s.heap := hP
  refine lv_aload_n hx hb dX7_firstFrom_0 rfl (lv_at hl 0 rfl) ?_
  refine lv_aload_n hx hb dX7_firstFrom_1 rfl (lv_at hl 1 rfl) ?_
  have hC9 : ([0, 1, 3, 4, 9]).map (fun i => (wd_X7_firstFrom G h_this h_top h_colors h_o1 h_o1_operation h_o1_braid h_o1_weights h_o1_operation_products h_o1_operation_quotients h_o1_operation_products_cells h_o1_operation_quotients_cells h_o1_braid_crossings h_o1_weights_values h_o1_weights_values_cells f_total a_top a_colors f_o1_operation_size f_o1_operation_badColumn a_o1_operation_products_cells a_o1_operation_quotients_cells f_o1_braid_strands f_o1_braid_count a_o1_braid_crossings f_o1_weights_modulus a_o1_weights_values_cells)[i]?) = (wd_X7_startAtFirst G h_this h_top h_colors h_o1 h_o1_operation h_o1_braid h_o1_weights h_o1_operation_products h_o1_operation_quotients h_o1_braid_crossings f_total a_top f_o1_operation_size f_o1_operation_badColumn f_o1_braid_strands f_o1_braid_count).map some := rfl
  refine qn_callI (wd := (fun u : (Nat → Int32) => wd_X7_firstFrom G h_this h_top h_colors h_o1 h_o1_operation h_o1_braid h_o1_weights h_o1_operation_products h_o1_operation_quotients h_o1_operation_products_cells h_o1_operation_quotients_cells h_o1_braid_crossings h_o1_weights_values h_o1_weights_values_cells f_total u a_colors f_o1_operation_size f_o1_operation_badColumn a_o1_operation_products_cells a_o1_operation_quotients_cells f_o1_braid_strands f_o1_braid_count a_o1_braid_crossings f_o1_weights_modulus a_o1_weights_values_cells)) [0, 1, 3, 4, 9] (va_runV (As := [.ref h_o1]) (rest := []) ⟨hx, hb, hml, hown, hts⟩ (c_X7_startAtFirst G _ h_this h_top h_colors h_o1 h_o1_operation h_o1_braid h_o1_weights h_o1_operation_products h_o1_operation_quotients h_o1_braid_crossings f_total a_top f_o1_operation_size f_o1_operation_badColumn f_o1_braid_strands f_o1_braid_count hw) (cwV 1 hts gX7_firstFrom_X7_startAtFirst rfl rfl rfl (by decide +kernel) ⟨Nat.le_of_ble_eq_true rfl, Nat.le_of_ble_eq_true rfl⟩) (qn_preV hE hP hD [0, 1, 3, 4, 9] hC9 (by decide +kernel) (ci := 7) rfl rfl) rfl rfl hl.1 rfl (lv_room (Nat.le_of_ble_eq_true rfl)) dX7_firstFrom_2 ⟨Nat.le_of_ble_eq_true rfl, Nat.le_of_ble_eq_true rfl⟩) hP hD hS hA hC9 [some 0, some 1, none, some 2, some 3, none, none, none, none, some 4, none, none, none, none] (M := 14) rfl (by decide +kernel) (fun _ => rfl) (fun _ => rfl) (fun r_2 a_top_1 H locs hw hP hD hS => ?_)
  try dsimp only at hw
  have hP : va_P G.1 vwCl (wd_X7_firstFrom G h_this h_top h_colors h_o1 h_o1_operation h_o1_braid h_o1_weights h_o1_operation_products h_o1_operation_quotients h_o1_operation_products_cells h_o1_operation_quotients_cells h_o1_braid_crossings h_o1_weights_values h_o1_weights_values_cells f_total a_top_1 a_colors f_o1_operation_size f_o1_operation_badColumn a_o1_operation_products_cells a_o1_operation_quotients_cells f_o1_braid_strands f_o1_braid_count a_o1_braid_crossings f_o1_weights_modulus a_o1_weights_values_cells) H := hP
  have hD : va_D A (wd_X7_firstFrom G h_this h_top h_colors h_o1 h_o1_operation h_o1_braid h_o1_weights h_o1_operation_products h_o1_operation_quotients h_o1_operation_products_cells h_o1_operation_quotients_cells h_o1_braid_crossings h_o1_weights_values h_o1_weights_values_cells f_total a_top_1 a_colors f_o1_operation_size f_o1_operation_badColumn a_o1_operation_products_cells a_o1_operation_quotients_cells f_o1_braid_strands f_o1_braid_count a_o1_braid_crossings f_o1_weights_modulus a_o1_weights_values_cells) := hD
  refine lv_istore_n (lv' := [(3, .int r_2), (0, .ref h_this), (1, .ref h_o1), (2, .int x2)]) hx hb dX7_firstFrom_5 rfl hl (by decide) rfl (fun ls hl => ?_)
  refine lv_iconst (v := 0) hx hb dX7_firstFrom_6 (by decide) ?_
  refine lv_istore (lv' := [(4, .int 0), (3, .int r_2), (0, .ref h_this), (1, .ref h_o1), (2, .int x2)]) hx hb dX7_firstFrom_7 hl (by decide) rfl (fun ls hl => ?_)
  obtain ⟨fu_19, hw⟩ := hw
  refine l_X7_firstFrom_9 (post := post) C0 hE hA (fun f_total_16 a_top_17 a_colors_18 hw H locs ls hP hD hS hl => ?_) fu_19 0 f_total a_top_1 a_colors hw _ _ _ hP hD hS (lv_sub hl [2, 3, 4, 1, 0] rfl)
  refine lv_bipush (v := (-4)) hx hb dX7_firstFrom_43 (by decide) ?_
  exact W.iret (v := (-4)) hx hb hr (fun t ht hW => ⟨⟨(-4), (f_total_16, a_top_17, a_colors_18), rfl, hw, by rw [ht]; exact hP, hD⟩, hS.F ht⟩) hS.2.2 dX7_firstFrom_45
-- QuandleColorings$Weights.allows(I)Z
abbrev rm_X8_allows : Room := { frames := 0, cells := 0, slots := 0, locals := 0 }
abbrev wd_X8_allows (G : qn_G) (h_this h_values : Nat) (f_modulus : Int32) : va_W := [(h_this, .inr (8, [.int f_modulus, .ref h_values]))]
theorem in_X8_allows_X8 : ∀ w ∈ u_ws RX8 TX8 2, w ∈ wsX8_allows := by decide +kernel
theorem lk_X8_allows_9 : Cond.fieldLink RX8 9 "QuandleColorings$Weights" "modulus" "I" ∈ wsX8_allows := by decide +kernel
def wp_X8_allows (post : Int32 → Prop) (f_modulus : Int32) (x1 : Int32) : Prop := ((x1 < 0 → (post 0)) ∧ (¬ x1 < 0 → ((f_modulus ≤ x1 → (post 0)) ∧ (¬ f_modulus ≤ x1 → (post 1)))))
set_option maxHeartbeats 4000000 in
set_option maxRecDepth 100000 in
theorem c_X8_allows {l : Launch} (G : qn_G) (sz : Nat) (h_this h_values : Nat) (f_modulus : Int32) (x1 : Int32) {post : Int32 → Prop} (hw : wp_X8_allows post f_modulus x1) : Met l yX8_allows wsX8_allows rm_X8_allows (qn_PC G [.ref h_this, .int x1] sz (wd_X8_allows G h_this h_values f_modulus)) (qn_QI G (fun (r : Int32) (u : Unit) => post r) (fun u : Unit => wd_X8_allows G h_this h_values f_modulus) (va_A (wd_X8_allows G h_this h_values f_modulus) sz)) 0 0 (va_A (wd_X8_allows G h_this h_values f_modulus) sz) := by
  refine Met.ofW (cc := cX8_allows) (maxL := 2) (ret := (some .boolean)) (by decide) rfl ?_
  intro p e s m args below meth c s₁ B hml hv
  obtain ⟨rfl, hsz, hP, hE, hD0⟩ := hv
  have C0 : qn_C p m c cX8_allows 2 s _ wsX8_allows RX8 meth (some .boolean) := qn_C0 B hml
  obtain ⟨hx, hb, -, hown, hts, hr, hlocks⟩ := id C0
  subst hsz
  have hD := hD0.self (sz := s.heap.size)
  generalize hAe : va_A (wd_X8_allows G h_this h_values f_modulus) s.heap.size = A at hD ⊢
  have hA : ∀ q : Nat, s.heap.size ≤ q → A q := fun q h => by rw [← hAe]; exact Or.inr h
  clear hAe
  have hS : va_S A s.heap s.heap [] := va_S.rf
  have hl := lv_entry ([.ref h_this, .int x1]) (n := 2) (Nat.le_of_ble_eq_true rfl)
  rw [lg_entry_eq]
  generalize (lg_sl ([.ref h_this, .int x1]) ++ List.replicate (2 - (lg_sl ([.ref h_this, .int x1])).length) Slot.unset).toArray = ls at hl ⊢
  have hl : lv_has ls 2 [(0, .ref h_this), (1, .int x1)] := hl
  have hP : va_P G.1 vwCl (wd_X8_allows G h_this h_values f_modulus) s.heap := hP
  refine lv_iload_n hx hb dX8_allows_0 rfl (lv_at hl 1 rfl) ?_
  refine lv_if_lt (tgt := 16) hx hb dX8_allows_1 (by decide) (fun c_1 => ?_) (fun c_1 => ?_)
  · have hw := hw.1 c_1
    refine lv_iconst (v := 0) hx hb dX8_allows_16 (by decide) ?_
    exact W.zret (v := 0) hx hb hr (by decide) (fun t ht hW => ⟨⟨0, (), rfl, hw, by rw [ht]; exact hP, hD⟩, hS.F ht⟩) hS.2.2 dX8_allows_17
  · have hw := hw.2 c_1
    refine lv_iload_n hx hb dX8_allows_4 rfl (lv_at hl 1 rfl) ?_
    refine lv_aload_n hx hb dX8_allows_5 rfl (lv_at hl 0 rfl) ?_
    refine va_get (D := G.1) (ci := 8) (v := .int f_modulus) (C := RX8) (T := TX8) (N := 2) hx hb hts in_X8_allows_X8 hown hE.1 hP 0 rfl rfl 0 (by decide) (hts (.fieldLink RX8 9 "QuandleColorings$Weights" "modulus" "I") lk_X8_allows_9) (fun _ h9 => h9) rfl dX8_allows_6 ?_
    refine lv_icmp_ge (tgt := 16) hx hb dX8_allows_9 (by decide) (fun c_2 => ?_) (fun c_2 => ?_)
    · have hw := hw.1 c_2
      refine lv_iconst (v := 0) hx hb dX8_allows_16 (by decide) ?_
      exact W.zret (v := 0) hx hb hr (by decide) (fun t ht hW => ⟨⟨0, (), rfl, hw, by rw [ht]; exact hP, hD⟩, hS.F ht⟩) hS.2.2 dX8_allows_17
    · have hw := hw.2 c_2
      refine lv_iconst (v := 1) hx hb dX8_allows_12 (by decide) ?_
      refine lv_goto (tgt := 17) hx hb dX8_allows_13 (by decide) ?_
      exact W.zret (v := 1) hx hb hr (by decide) (fun t ht hW => ⟨⟨1, (), rfl, hw, by rw [ht]; exact hP, hD⟩, hS.F ht⟩) hS.2.2 dX8_allows_17
-- QuandleColorings$Weights.addBoundary(LQuandleColorings$Operation;II)I
abbrev rm_X8_addBoundary : Room := { frames := 3, cells := 0, slots := 0, locals := 65 }
abbrev wd_X8_addBoundary (G : qn_G) (h_this h_values h_values_cells h_o1 h_o1_products h_o1_quotients h_o1_products_cells : Nat) (f_modulus : Int32) (a_values_cells : Nat → Int32) (f_o1_size : Int32) (f_o1_badColumn : Int32) (a_o1_products_cells : Nat → Int32) : va_W := [(h_this, .inr (8, [.int f_modulus, .ref h_values])), (h_values, .inr (2, [.ref h_values_cells])), (h_values_cells, .inl (G.2.1, 36, .inl a_values_cells)), (h_o1, .inr (5, [.int f_o1_size, .ref h_o1_products, .ref h_o1_quotients, .int f_o1_badColumn])), (h_o1_products, .inr (2, [.ref h_o1_products_cells])), (h_o1_products_cells, .inl (G.2.1, 36, .inl a_o1_products_cells))]
theorem in_X8_addBoundary_X5 : ∀ w ∈ u_ws RX5 TX5 4, w ∈ wsX8_addBoundary := by decide +kernel
theorem in_X8_addBoundary_X8 : ∀ w ∈ u_ws RX8 TX8 2, w ∈ wsX8_addBoundary := by decide +kernel
theorem lk_X8_addBoundary_18 : Cond.fieldLink RX8 18 "QuandleColorings$Weights" "values" "LQuandleColorings$Grid;" ∈ wsX8_addBoundary := by decide +kernel
def wp_X8_addBoundary_J84 (BL18 : Int32 → Int32 → (Nat → Int32) → Prop) (x4 : Int32) (x5 : Int32) (x6 : Int32) (x7 : Int32) (z0 : Int32) (a_values_cells : Nat → Int32) : Prop := (wp_X2_put (fun (a_values_cells_7 : Nat → Int32) => ((z0 = x7 → (∀ x6_9 : Int32, x6_9 = x6 + 1 → (BL18 x4 x6_9 a_values_cells_7))) ∧ (¬ z0 = x7 → (∀ x4_10 : Int32, x4_10 = x4 + 1 → (∀ x6_11 : Int32, x6_11 = x6 + 1 → (BL18 x4_10 x6_11 a_values_cells_7)))))) a_values_cells x5 x6 z0)
def wp_X8_addBoundary_J58 (BL18 : Int32 → Int32 → (Nat → Int32) → Prop) (x2 : Int32) (x3 : Int32) (x4 : Int32) (x5 : Int32) (x6 : Int32) (x7 : Int32) (z0 : Int32) (f_modulus : Int32) (a_values_cells : Nat → Int32) (a_o1_products_cells : Nat → Int32) : Prop := (wp_X5_product (fun (r_5 : Int32) => ((¬ r_5 = x2 → (wp_X8_addBoundary_J84 BL18 x4 x5 x6 x7 z0 a_values_cells)) ∧ (r_5 = x2 → (wp_X8_minus (fun (r_17 : Int32) => (wp_X8_addBoundary_J84 BL18 x4 x5 x6 x7 r_17 a_values_cells)) f_modulus z0 x3)))) a_o1_products_cells x5 x6)
def wp_X8_addBoundary_L18 (KL18 : Int32 → (Nat → Int32) → Prop) (x2 : Int32) (x3 : Int32) (x5 : Int32) (f_modulus : Int32) (f_o1_size : Int32) (a_o1_products_cells : Nat → Int32) : Nat → Int32 → Int32 → (Nat → Int32) → Prop
  | 0 => fun _ _ _ => False
  | fu + 1 => fun x4 x6 a_values_cells => ((f_o1_size ≤ x6 → (KL18 x4 a_values_cells)) ∧ (¬ f_o1_size ≤ x6 → (wp_X2_get (fun (r_3 : Int32) => ((¬ x5 = x2 → (wp_X8_addBoundary_J58 (wp_X8_addBoundary_L18 KL18 x2 x3 x5 f_modulus f_o1_size a_o1_products_cells fu) x2 x3 x4 x5 x6 r_3 r_3 f_modulus a_values_cells a_o1_products_cells)) ∧ (x5 = x2 → (wp_X8_plus (fun (r_36 : Int32) => (wp_X8_addBoundary_J58 (wp_X8_addBoundary_L18 KL18 x2 x3 x5 f_modulus f_o1_size a_o1_products_cells fu) x2 x3 x4 x5 x6 r_3 r_36 f_modulus a_values_cells a_o1_products_cells)) f_modulus r_3 x3)))) a_values_cells x5 x6)))
def wp_X8_addBoundary_L6 (KL6 : Int32 → (Nat → Int32) → Prop) (x2 : Int32) (x3 : Int32) (f_modulus : Int32) (f_o1_size : Int32) (a_o1_products_cells : Nat → Int32) : Nat → Int32 → Int32 → (Nat → Int32) → Prop
  | 0 => fun _ _ _ => False
  | fu + 1 => fun x4 x5 a_values_cells => ((f_o1_size ≤ x5 → (KL6 x4 a_values_cells)) ∧ (¬ f_o1_size ≤ x5 → (∃ fu_53 : Nat, wp_X8_addBoundary_L18 (fun (x4_50 : Int32) (a_values_cells_51 : Nat → Int32) => (∀ x5_52 : Int32, x5_52 = x5 + 1 → ((wp_X8_addBoundary_L6 KL6 x2 x3 f_modulus f_o1_size a_o1_products_cells fu) x4_50 x5_52 a_values_cells_51))) x2 x3 x5 f_modulus f_o1_size a_o1_products_cells fu_53 x4 0 a_values_cells)))
def wp_X8_addBoundary (post : Int32 → (Nat → Int32) → Prop) (f_modulus : Int32) (a_values_cells : Nat → Int32) (f_o1_size : Int32) (a_o1_products_cells : Nat → Int32) (x2 : Int32) (x3 : Int32) : Prop := (∃ fu_56 : Nat, wp_X8_addBoundary_L6 (fun (x4_54 : Int32) (a_values_cells_55 : Nat → Int32) => (post x4_54 a_values_cells_55)) x2 x3 f_modulus f_o1_size a_o1_products_cells fu_56 0 0 a_values_cells)
set_option maxHeartbeats 4000000 in
set_option maxRecDepth 100000 in
theorem l_X8_addBoundary_18 {p : Program} {l : Launch} {e : Env} {s : State} {m : MethodId} {args : Array Value} {below : List Frame} {meth : Method} {c : Code} {G : qn_G} {A : Nat → Prop} {h_this h_values h_values_cells h_o1 h_o1_products h_o1_quotients h_o1_products_cells : Nat} {f_modulus : Int32} {f_o1_size : Int32} {f_o1_badColumn : Int32} {a_o1_products_cells : Nat → Int32} {x2 : Int32} {x3 : Int32} {x5 : Int32} {post : Int32 → (Nat → Int32) → Prop} {KL18 : Int32 → (Nat → Int32) → Prop} (C0 : qn_C p m c cX8_addBoundary 10 s args wsX8_addBoundary RX8 meth (some .int)) (hE : qn_EV G s) (hA : ∀ q, s.heap.size ≤ q → A q) (hKc : ∀ (x4 : Int32) (a_values_cells : Nat → Int32), KL18 x4 a_values_cells → ∀ (H : Heap) (locs : List Loc) (ls : Array Slot), va_P G.1 vwCl (wd_X8_addBoundary G h_this h_values h_values_cells h_o1 h_o1_products h_o1_quotients h_o1_products_cells f_modulus a_values_cells f_o1_size f_o1_badColumn a_o1_products_cells) H → va_D A (wd_X8_addBoundary G h_this h_values h_values_cells h_o1 h_o1_products h_o1_quotients h_o1_products_cells f_modulus a_values_cells f_o1_size f_o1_badColumn a_o1_products_cells) → va_S A s.heap H locs → lv_has ls 10 [(0, .ref h_this), (1, .ref h_o1), (2, .int x2), (3, .int x3), (4, .int x4), (5, .int x5)] → W p l e (headSpec wsX8_addBoundary rm_X8_addBoundary).room s m args below meth c H locs 0 0 (MQ below (qn_QI G (fun (r : Int32) (u : (Nat → Int32)) => post r u) (fun u : (Nat → Int32) => wd_X8_addBoundary G h_this h_values h_values_cells h_o1 h_o1_products h_o1_quotients h_o1_products_cells f_modulus u f_o1_size f_o1_badColumn a_o1_products_cells) A) args s 0 0 A) (F0 m 115 ls [])) :
    ∀ (fu : Nat) (x4 : Int32) (x6 : Int32) (a_values_cells : Nat → Int32), wp_X8_addBoundary_L18 KL18 x2 x3 x5 f_modulus f_o1_size a_o1_products_cells fu x4 x6 a_values_cells → ∀ (H : Heap) (locs : List Loc) (ls : Array Slot), va_P G.1 vwCl (wd_X8_addBoundary G h_this h_values h_values_cells h_o1 h_o1_products h_o1_quotients h_o1_products_cells f_modulus a_values_cells f_o1_size f_o1_badColumn a_o1_products_cells) H → va_D A (wd_X8_addBoundary G h_this h_values h_values_cells h_o1 h_o1_products h_o1_quotients h_o1_products_cells f_modulus a_values_cells f_o1_size f_o1_badColumn a_o1_products_cells) → va_S A s.heap H locs → lv_has ls 10 [(0, .ref h_this), (1, .ref h_o1), (2, .int x2), (3, .int x3), (4, .int x4), (5, .int x5), (6, .int x6)] → W p l e (headSpec wsX8_addBoundary rm_X8_addBoundary).room s m args below meth c H locs 0 0 (MQ below (qn_QI G (fun (r : Int32) (u : (Nat → Int32)) => post r u) (fun u : (Nat → Int32) => wd_X8_addBoundary G h_this h_values h_values_cells h_o1 h_o1_products h_o1_quotients h_o1_products_cells f_modulus u f_o1_size f_o1_badColumn a_o1_products_cells) A) args s 0 0 A) (F0 m 18 ls []) := by
  obtain ⟨hx, hb, hml, hown, hts, hr, hlocks⟩ := id C0
  intro fu
  induction fu with
  | zero => intro x4 x6 a_values_cells hw; exact hw.elim
  | succ fu ih =>
    intro x4 x6 a_values_cells hw H locs ls hP hD hS hl
    refine lv_iload hx hb dX8_addBoundary_18 (lv_at hl 6 rfl) ?_
    refine lv_aload_n hx hb dX8_addBoundary_20 rfl (lv_at hl 1 rfl) ?_
    refine va_getN (D := G.1) (ci := 5) (v := .int f_o1_size) (C := RX5) (T := TX5) (N := 4) hx hb hts in_X8_addBoundary_X5 hown hE.1 hP 3 rfl rfl 0 (by decide) (va_Nw.use rfl (qn_f_Weights_29 hE.2.1)) (fun _ h9 => h9) rfl dX8_addBoundary_21 ?_
    refine lv_icmp_ge (tgt := 115) hx hb dX8_addBoundary_24 (by decide) (fun c_2 => ?_) (fun c_2 => ?_)
    · have hw := hw.1 c_2
      exact hKc x4 a_values_cells hw _ _ _ hP hD hS (lv_sub hl [0, 1, 2, 3, 4, 5] rfl)
    · have hw := hw.2 c_2
      refine lv_aload_n hx hb dX8_addBoundary_27 rfl (lv_at hl 0 rfl) ?_
      refine va_get (D := G.1) (ci := 8) (v := .ref h_values) (C := RX8) (T := TX8) (N := 2) hx hb hts in_X8_addBoundary_X8 hown hE.1 hP 0 rfl rfl 1 (by decide) (hts (.fieldLink RX8 18 "QuandleColorings$Weights" "values" "LQuandleColorings$Grid;") lk_X8_addBoundary_18) (fun _ h9 => h9) rfl dX8_addBoundary_28 ?_
      refine lv_iload hx hb dX8_addBoundary_31 (lv_at hl 5 rfl) ?_
      refine lv_iload hx hb dX8_addBoundary_33 (lv_at hl 6 rfl) ?_
      have hC9 : ([1, 2]).map (fun i => (wd_X8_addBoundary G h_this h_values h_values_cells h_o1 h_o1_products h_o1_quotients h_o1_products_cells f_modulus a_values_cells f_o1_size f_o1_badColumn a_o1_products_cells)[i]?) = (wd_X2_get G h_values h_values_cells a_values_cells).map some := rfl
      refine qn_callI (wd := (fun u : Unit => wd_X8_addBoundary G h_this h_values h_values_cells h_o1 h_o1_products h_o1_quotients h_o1_products_cells f_modulus a_values_cells f_o1_size f_o1_badColumn a_o1_products_cells)) [1, 2] (va_runV (As := [.int x5, .int x6]) (rest := []) ⟨hx, hb, hml, hown, hts⟩ (c_X2_get G _ h_values h_values_cells a_values_cells x5 x6 hw) (cwV 2 hts gX8_addBoundary_X2_get rfl rfl rfl (by decide +kernel) ⟨Nat.le_of_ble_eq_true rfl, Nat.le_of_ble_eq_true rfl⟩) (qn_preV hE hP hD [1, 2] hC9 (by decide +kernel) (ci := 2) rfl rfl) rfl rfl hl.1 rfl (lv_room (Nat.le_of_ble_eq_true rfl)) dX8_addBoundary_35 ⟨Nat.le_of_ble_eq_true rfl, Nat.le_of_ble_eq_true rfl⟩) hP hD hS hA hC9 [none, some 0, some 1, none, none, none] (M := 6) rfl (by decide +kernel) (fun _ => rfl) (fun _ => rfl) (fun r_3 _ H locs hw hP hD hS => ?_)
      try dsimp only at hw
      have hP : va_P G.1 vwCl (wd_X8_addBoundary G h_this h_values h_values_cells h_o1 h_o1_products h_o1_quotients h_o1_products_cells f_modulus a_values_cells f_o1_size f_o1_badColumn a_o1_products_cells) H := hP
      have hD : va_D A (wd_X8_addBoundary G h_this h_values h_values_cells h_o1 h_o1_products h_o1_quotients h_o1_products_cells f_modulus a_values_cells f_o1_size f_o1_badColumn a_o1_products_cells) := hD
      refine lv_istore (lv' := [(7, .int r_3), (0, .ref h_this), (1, .ref h_o1), (2, .int x2), (3, .int x3), (4, .int x4), (5, .int x5), (6, .int x6)]) hx hb dX8_addBoundary_38 hl (by decide) rfl (fun ls hl => ?_)
      refine lv_iload hx hb dX8_addBoundary_40 (lv_at hl 6 rfl) ?_
      refine lv_iload_n hx hb dX8_addBoundary_42 rfl (lv_at hl 3 rfl) ?_
      refine lv_icmp_ne (tgt := 56) hx hb dX8_addBoundary_43 (by decide) (fun c_4 => ?_) (fun c_4 => ?_)
      · have hw := hw.1 c_4
        refine lv_iload hx hb dX8_addBoundary_56 (lv_at hl 0 rfl) ?_
        refine lv_istore (lv' := [(8, .int r_3), (7, .int r_3), (0, .ref h_this), (1, .ref h_o1), (2, .int x2), (3, .int x3), (4, .int x4), (5, .int x5), (6, .int x6)]) hx hb dX8_addBoundary_58 hl (by decide) rfl (fun ls hl => ?_)
        refine lv_aload_n hx hb dX8_addBoundary_60 rfl (lv_at hl 3 rfl) ?_
        refine lv_iload hx hb dX8_addBoundary_61 (lv_at hl 7 rfl) ?_
        refine lv_iload hx hb dX8_addBoundary_63 (lv_at hl 8 rfl) ?_
        have hC9 : ([3, 4, 5]).map (fun i => (wd_X8_addBoundary G h_this h_values h_values_cells h_o1 h_o1_products h_o1_quotients h_o1_products_cells f_modulus a_values_cells f_o1_size f_o1_badColumn a_o1_products_cells)[i]?) = (wd_X5_product G h_o1 h_o1_products h_o1_quotients h_o1_products_cells f_o1_size f_o1_badColumn a_o1_products_cells).map some := rfl
        refine qn_callI (wd := (fun u : Unit => wd_X8_addBoundary G h_this h_values h_values_cells h_o1 h_o1_products h_o1_quotients h_o1_products_cells f_modulus a_values_cells f_o1_size f_o1_badColumn a_o1_products_cells)) [3, 4, 5] (va_runV (As := [.int x5, .int x6]) (rest := []) ⟨hx, hb, hml, hown, hts⟩ (c_X5_product G _ h_o1 h_o1_products h_o1_quotients h_o1_products_cells f_o1_size f_o1_badColumn a_o1_products_cells x5 x6 hw) (cwV 2 hts gX8_addBoundary_X5_product rfl rfl rfl (by decide +kernel) ⟨Nat.le_of_ble_eq_true rfl, Nat.le_of_ble_eq_true rfl⟩) (qn_preV hE hP hD [3, 4, 5] hC9 (by decide +kernel) (ci := 5) rfl rfl) rfl rfl hl.1 rfl (lv_room (Nat.le_of_ble_eq_true rfl)) dX8_addBoundary_65 ⟨Nat.le_of_ble_eq_true rfl, Nat.le_of_ble_eq_true rfl⟩) hP hD hS hA hC9 [none, none, none, some 0, some 1, some 2] (M := 6) rfl (by decide +kernel) (fun _ => rfl) (fun _ => rfl) (fun r_23 _ H locs hw hP hD hS => ?_)
        try dsimp only at hw
        have hP : va_P G.1 vwCl (wd_X8_addBoundary G h_this h_values h_values_cells h_o1 h_o1_products h_o1_quotients h_o1_products_cells f_modulus a_values_cells f_o1_size f_o1_badColumn a_o1_products_cells) H := hP
        have hD : va_D A (wd_X8_addBoundary G h_this h_values h_values_cells h_o1 h_o1_products h_o1_quotients h_o1_products_cells f_modulus a_values_cells f_o1_size f_o1_badColumn a_o1_products_cells) := hD
        refine lv_iload_n hx hb dX8_addBoundary_68 rfl (lv_at hl 4 rfl) ?_
        refine lv_icmp_ne (tgt := 82) hx hb dX8_addBoundary_69 (by decide) (fun c_24 => ?_) (fun c_24 => ?_)
        · have hw := hw.1 c_24
          refine lv_iload hx hb dX8_addBoundary_82 (lv_at hl 0 rfl) ?_
          refine lv_istore (lv' := [(9, .int r_3), (8, .int r_3), (7, .int r_3), (0, .ref h_this), (1, .ref h_o1), (2, .int x2), (3, .int x3), (4, .int x4), (5, .int x5), (6, .int x6)]) hx hb dX8_addBoundary_84 hl (by decide) rfl (fun ls hl => ?_)
          refine lv_aload_n hx hb dX8_addBoundary_86 rfl (lv_at hl 3 rfl) ?_
          refine va_get (D := G.1) (ci := 8) (v := .ref h_values) (C := RX8) (T := TX8) (N := 2) hx hb hts in_X8_addBoundary_X8 hown hE.1 hP 0 rfl rfl 1 (by decide) (hts (.fieldLink RX8 18 "QuandleColorings$Weights" "values" "LQuandleColorings$Grid;") lk_X8_addBoundary_18) (fun _ h9 => h9) rfl dX8_addBoundary_87 ?_
          refine lv_iload hx hb dX8_addBoundary_90 (lv_at hl 8 rfl) ?_
          refine lv_iload hx hb dX8_addBoundary_92 (lv_at hl 9 rfl) ?_
          refine lv_iload hx hb dX8_addBoundary_94 (lv_at hl 0 rfl) ?_
          have hC9 : ([1, 2]).map (fun i => (wd_X8_addBoundary G h_this h_values h_values_cells h_o1 h_o1_products h_o1_quotients h_o1_products_cells f_modulus a_values_cells f_o1_size f_o1_badColumn a_o1_products_cells)[i]?) = (wd_X2_put G h_values h_values_cells a_values_cells).map some := rfl
          refine qn_callV (wd := (fun u : (Nat → Int32) => wd_X8_addBoundary G h_this h_values h_values_cells h_o1 h_o1_products h_o1_quotients h_o1_products_cells f_modulus u f_o1_size f_o1_badColumn a_o1_products_cells)) [1, 2] (va_runV (As := [.int x5, .int x6, .int r_3]) (rest := []) ⟨hx, hb, hml, hown, hts⟩ (c_X2_put G _ h_values h_values_cells a_values_cells x5 x6 r_3 hw) (cwV 3 hts gX8_addBoundary_X2_put rfl rfl rfl (by decide +kernel) ⟨Nat.le_of_ble_eq_true rfl, Nat.le_of_ble_eq_true rfl⟩) (qn_preV hE hP hD [1, 2] hC9 (by decide +kernel) (ci := 2) rfl rfl) rfl rfl hl.1 rfl (lv_room (Nat.le_of_ble_eq_true rfl)) dX8_addBoundary_96 ⟨Nat.le_of_ble_eq_true rfl, Nat.le_of_ble_eq_true rfl⟩) hP hD hS hA hC9 [none, some 0, some 1, none, none, none] (M := 6) rfl (by decide +kernel) (fun _ => rfl) (fun _ => rfl) (fun a_values_cells_25 H locs hw hP hD hS => ?_)
          try dsimp only at hw
          have hP : va_P G.1 vwCl (wd_X8_addBoundary G h_this h_values h_values_cells h_o1 h_o1_products h_o1_quotients h_o1_products_cells f_modulus a_values_cells_25 f_o1_size f_o1_badColumn a_o1_products_cells) H := hP
          have hD : va_D A (wd_X8_addBoundary G h_this h_values h_values_cells h_o1 h_o1_products h_o1_quotients h_o1_products_cells f_modulus a_values_cells_25 f_o1_size f_o1_badColumn a_o1_products_cells) := hD
          refine lv_iload hx hb dX8_addBoundary_99 (lv_at hl 0 rfl) ?_
          refine lv_iload hx hb dX8_addBoundary_101 (lv_at hl 2 rfl) ?_
          refine lv_icmp_eq (tgt := 109) hx hb dX8_addBoundary_103 (by decide) (fun c_26 => ?_) (fun c_26 => ?_)
          · have hw := hw.1 c_26
            obtain ⟨x6_27, ex6_27⟩ : ∃ y : Int32, y = x6 + 1 := ⟨_, rfl⟩
            have hw := hw x6_27 ex6_27
            refine lv_iinc (v := x6_27) (lv' := [(6, .int x6_27), (9, .int r_3), (8, .int r_3), (7, .int r_3), (0, .ref h_this), (1, .ref h_o1), (2, .int x2), (3, .int x3), (4, .int x4), (5, .int x5)]) hx hb dX8_addBoundary_109 hl (k := 9) rfl (by rw [ex6_27]; rfl) (by decide) rfl (fun ls hl => ?_)
            refine lv_goto (tgt := 18) hx hb dX8_addBoundary_112 (by decide) ?_
            exact ih x4 x6_27 a_values_cells_25 hw _ _ _ hP hD hS (lv_sub hl [4, 5, 6, 7, 8, 9, 0] rfl)
          · have hw := hw.2 c_26
            obtain ⟨x4_28, ex4_28⟩ : ∃ y : Int32, y = x4 + 1 := ⟨_, rfl⟩
            have hw := hw x4_28 ex4_28
            refine lv_iinc (v := x4_28) (lv' := [(4, .int x4_28), (9, .int r_3), (8, .int r_3), (7, .int r_3), (0, .ref h_this), (1, .ref h_o1), (2, .int x2), (3, .int x3), (5, .int x5), (6, .int x6)]) hx hb dX8_addBoundary_106 hl (k := 7) rfl (by rw [ex4_28]; rfl) (by decide) rfl (fun ls hl => ?_)
            obtain ⟨x6_29, ex6_29⟩ : ∃ y : Int32, y = x6 + 1 := ⟨_, rfl⟩
            have hw := hw x6_29 ex6_29
            refine lv_iinc (v := x6_29) (lv' := [(6, .int x6_29), (4, .int x4_28), (9, .int r_3), (8, .int r_3), (7, .int r_3), (0, .ref h_this), (1, .ref h_o1), (2, .int x2), (3, .int x3), (5, .int x5)]) hx hb dX8_addBoundary_109 hl (k := 9) rfl (by rw [ex6_29]; rfl) (by decide) rfl (fun ls hl => ?_)
            refine lv_goto (tgt := 18) hx hb dX8_addBoundary_112 (by decide) ?_
            exact ih x4_28 x6_29 a_values_cells_25 hw _ _ _ hP hD hS (lv_sub hl [5, 6, 7, 8, 1, 9, 0] rfl)
        · have hw := hw.2 c_24
          refine lv_aload_n hx hb dX8_addBoundary_72 rfl (lv_at hl 2 rfl) ?_
          refine lv_iload hx hb dX8_addBoundary_73 (lv_at hl 0 rfl) ?_
          refine lv_iload_n hx hb dX8_addBoundary_75 rfl (lv_at hl 5 rfl) ?_
          have hC9 : ([0]).map (fun i => (wd_X8_addBoundary G h_this h_values h_values_cells h_o1 h_o1_products h_o1_quotients h_o1_products_cells f_modulus a_values_cells f_o1_size f_o1_badColumn a_o1_products_cells)[i]?) = (wd_X8_minus G h_this h_values f_modulus).map some := rfl
          refine qn_callI (wd := (fun u : Unit => wd_X8_addBoundary G h_this h_values h_values_cells h_o1 h_o1_products h_o1_quotients h_o1_products_cells f_modulus a_values_cells f_o1_size f_o1_badColumn a_o1_products_cells)) [0] (va_runV (As := [.int r_3, .int x3]) (rest := []) ⟨hx, hb, hml, hown, hts⟩ (c_X8_minus G _ h_this h_values f_modulus r_3 x3 hw) (cwV 2 hts gX8_addBoundary_X8_minus rfl rfl rfl (by decide +kernel) ⟨Nat.le_of_ble_eq_true rfl, Nat.le_of_ble_eq_true rfl⟩) (qn_preV hE hP hD [0] hC9 (by decide +kernel) (ci := 8) rfl rfl) rfl rfl hl.1 rfl (lv_room (Nat.le_of_ble_eq_true rfl)) dX8_addBoundary_76 ⟨Nat.le_of_ble_eq_true rfl, Nat.le_of_ble_eq_true rfl⟩) hP hD hS hA hC9 [some 0, none, none, none, none, none] (M := 6) rfl (by decide +kernel) (fun _ => rfl) (fun _ => rfl) (fun r_30 _ H locs hw hP hD hS => ?_)
          try dsimp only at hw
          have hP : va_P G.1 vwCl (wd_X8_addBoundary G h_this h_values h_values_cells h_o1 h_o1_products h_o1_quotients h_o1_products_cells f_modulus a_values_cells f_o1_size f_o1_badColumn a_o1_products_cells) H := hP
          have hD : va_D A (wd_X8_addBoundary G h_this h_values h_values_cells h_o1 h_o1_products h_o1_quotients h_o1_products_cells f_modulus a_values_cells f_o1_size f_o1_badColumn a_o1_products_cells) := hD
          refine lv_goto (tgt := 84) hx hb dX8_addBoundary_79 (by decide) ?_
          refine lv_istore (lv' := [(9, .int r_30), (8, .int r_3), (7, .int r_3), (0, .ref h_this), (1, .ref h_o1), (2, .int x2), (3, .int x3), (4, .int x4), (5, .int x5), (6, .int x6)]) hx hb dX8_addBoundary_84 hl (by decide) rfl (fun ls hl => ?_)
          refine lv_aload_n hx hb dX8_addBoundary_86 rfl (lv_at hl 3 rfl) ?_
          refine va_get (D := G.1) (ci := 8) (v := .ref h_values) (C := RX8) (T := TX8) (N := 2) hx hb hts in_X8_addBoundary_X8 hown hE.1 hP 0 rfl rfl 1 (by decide) (hts (.fieldLink RX8 18 "QuandleColorings$Weights" "values" "LQuandleColorings$Grid;") lk_X8_addBoundary_18) (fun _ h9 => h9) rfl dX8_addBoundary_87 ?_
          refine lv_iload hx hb dX8_addBoundary_90 (lv_at hl 8 rfl) ?_
          refine lv_iload hx hb dX8_addBoundary_92 (lv_at hl 9 rfl) ?_
          refine lv_iload hx hb dX8_addBoundary_94 (lv_at hl 0 rfl) ?_
          have hC9 : ([1, 2]).map (fun i => (wd_X8_addBoundary G h_this h_values h_values_cells h_o1 h_o1_products h_o1_quotients h_o1_products_cells f_modulus a_values_cells f_o1_size f_o1_badColumn a_o1_products_cells)[i]?) = (wd_X2_put G h_values h_values_cells a_values_cells).map some := rfl
          refine qn_callV (wd := (fun u : (Nat → Int32) => wd_X8_addBoundary G h_this h_values h_values_cells h_o1 h_o1_products h_o1_quotients h_o1_products_cells f_modulus u f_o1_size f_o1_badColumn a_o1_products_cells)) [1, 2] (va_runV (As := [.int x5, .int x6, .int r_30]) (rest := []) ⟨hx, hb, hml, hown, hts⟩ (c_X2_put G _ h_values h_values_cells a_values_cells x5 x6 r_30 hw) (cwV 3 hts gX8_addBoundary_X2_put rfl rfl rfl (by decide +kernel) ⟨Nat.le_of_ble_eq_true rfl, Nat.le_of_ble_eq_true rfl⟩) (qn_preV hE hP hD [1, 2] hC9 (by decide +kernel) (ci := 2) rfl rfl) rfl rfl hl.1 rfl (lv_room (Nat.le_of_ble_eq_true rfl)) dX8_addBoundary_96 ⟨Nat.le_of_ble_eq_true rfl, Nat.le_of_ble_eq_true rfl⟩) hP hD hS hA hC9 [none, some 0, some 1, none, none, none] (M := 6) rfl (by decide +kernel) (fun _ => rfl) (fun _ => rfl) (fun a_values_cells_31 H locs hw hP hD hS => ?_)
          try dsimp only at hw
          have hP : va_P G.1 vwCl (wd_X8_addBoundary G h_this h_values h_values_cells h_o1 h_o1_products h_o1_quotients h_o1_products_cells f_modulus a_values_cells_31 f_o1_size f_o1_badColumn a_o1_products_cells) H := hP
          have hD : va_D A (wd_X8_addBoundary G h_this h_values h_values_cells h_o1 h_o1_products h_o1_quotients h_o1_products_cells f_modulus a_values_cells_31 f_o1_size f_o1_badColumn a_o1_products_cells) := hD
          refine lv_iload hx hb dX8_addBoundary_99 (lv_at hl 0 rfl) ?_
          refine lv_iload hx hb dX8_addBoundary_101 (lv_at hl 2 rfl) ?_
          refine lv_icmp_eq (tgt := 109) hx hb dX8_addBoundary_103 (by decide) (fun c_32 => ?_) (fun c_32 => ?_)
          · have hw := hw.1 c_32
            obtain ⟨x6_33, ex6_33⟩ : ∃ y : Int32, y = x6 + 1 := ⟨_, rfl⟩
            have hw := hw x6_33 ex6_33
            refine lv_iinc (v := x6_33) (lv' := [(6, .int x6_33), (9, .int r_30), (8, .int r_3), (7, .int r_3), (0, .ref h_this), (1, .ref h_o1), (2, .int x2), (3, .int x3), (4, .int x4), (5, .int x5)]) hx hb dX8_addBoundary_109 hl (k := 9) rfl (by rw [ex6_33]; rfl) (by decide) rfl (fun ls hl => ?_)
            refine lv_goto (tgt := 18) hx hb dX8_addBoundary_112 (by decide) ?_
            exact ih x4 x6_33 a_values_cells_31 hw _ _ _ hP hD hS (lv_sub hl [4, 5, 6, 7, 8, 9, 0] rfl)
          · have hw := hw.2 c_32
            obtain ⟨x4_34, ex4_34⟩ : ∃ y : Int32, y = x4 + 1 := ⟨_, rfl⟩
            have hw := hw x4_34 ex4_34
            refine lv_iinc (v := x4_34) (lv' := [(4, .int x4_34), (9, .int r_30), (8, .int r_3), (7, .int r_3), (0, .ref h_this), (1, .ref h_o1), (2, .int x2), (3, .int x3), (5, .int x5), (6, .int x6)]) hx hb dX8_addBoundary_106 hl (k := 7) rfl (by rw [ex4_34]; rfl) (by decide) rfl (fun ls hl => ?_)
            obtain ⟨x6_35, ex6_35⟩ : ∃ y : Int32, y = x6 + 1 := ⟨_, rfl⟩
            have hw := hw x6_35 ex6_35
            refine lv_iinc (v := x6_35) (lv' := [(6, .int x6_35), (4, .int x4_34), (9, .int r_30), (8, .int r_3), (7, .int r_3), (0, .ref h_this), (1, .ref h_o1), (2, .int x2), (3, .int x3), (5, .int x5)]) hx hb dX8_addBoundary_109 hl (k := 9) rfl (by rw [ex6_35]; rfl) (by decide) rfl (fun ls hl => ?_)
            refine lv_goto (tgt := 18) hx hb dX8_addBoundary_112 (by decide) ?_
            exact ih x4_34 x6_35 a_values_cells_31 hw _ _ _ hP hD hS (lv_sub hl [5, 6, 7, 8, 1, 9, 0] rfl)
      · have hw := hw.2 c_4
        refine lv_aload_n hx hb dX8_addBoundary_46 rfl (lv_at hl 1 rfl) ?_
        refine lv_iload hx hb dX8_addBoundary_47 (lv_at hl 0 rfl) ?_
        refine lv_iload_n hx hb dX8_addBoundary_49 rfl (lv_at hl 4 rfl) ?_
        have hC9 : ([0]).map (fun i => (wd_X8_addBoundary G h_this h_values h_values_cells h_o1 h_o1_products h_o1_quotients h_o1_products_cells f_modulus a_values_cells f_o1_size f_o1_badColumn a_o1_products_cells)[i]?) = (wd_X8_plus G h_this h_values f_modulus).map some := rfl
        refine qn_callI (wd := (fun u : Unit => wd_X8_addBoundary G h_this h_values h_values_cells h_o1 h_o1_products h_o1_quotients h_o1_products_cells f_modulus a_values_cells f_o1_size f_o1_badColumn a_o1_products_cells)) [0] (va_runV (As := [.int r_3, .int x3]) (rest := []) ⟨hx, hb, hml, hown, hts⟩ (c_X8_plus G _ h_this h_values f_modulus r_3 x3 hw) (cwV 2 hts gX8_addBoundary_X8_plus rfl rfl rfl (by decide +kernel) ⟨Nat.le_of_ble_eq_true rfl, Nat.le_of_ble_eq_true rfl⟩) (qn_preV hE hP hD [0] hC9 (by decide +kernel) (ci := 8) rfl rfl) rfl rfl hl.1 rfl (lv_room (Nat.le_of_ble_eq_true rfl)) dX8_addBoundary_50 ⟨Nat.le_of_ble_eq_true rfl, Nat.le_of_ble_eq_true rfl⟩) hP hD hS hA hC9 [some 0, none, none, none, none, none] (M := 6) rfl (by decide +kernel) (fun _ => rfl) (fun _ => rfl) (fun r_36 _ H locs hw hP hD hS => ?_)
        try dsimp only at hw
        have hP : va_P G.1 vwCl (wd_X8_addBoundary G h_this h_values h_values_cells h_o1 h_o1_products h_o1_quotients h_o1_products_cells f_modulus a_values_cells f_o1_size f_o1_badColumn a_o1_products_cells) H := hP
        have hD : va_D A (wd_X8_addBoundary G h_this h_values h_values_cells h_o1 h_o1_products h_o1_quotients h_o1_products_cells f_modulus a_values_cells f_o1_size f_o1_badColumn a_o1_products_cells) := hD
        refine lv_goto (tgt := 58) hx hb dX8_addBoundary_53 (by decide) ?_
        refine lv_istore (lv' := [(8, .int r_36), (7, .int r_3), (0, .ref h_this), (1, .ref h_o1), (2, .int x2), (3, .int x3), (4, .int x4), (5, .int x5), (6, .int x6)]) hx hb dX8_addBoundary_58 hl (by decide) rfl (fun ls hl => ?_)
        refine lv_aload_n hx hb dX8_addBoundary_60 rfl (lv_at hl 3 rfl) ?_
        refine lv_iload hx hb dX8_addBoundary_61 (lv_at hl 7 rfl) ?_
        refine lv_iload hx hb dX8_addBoundary_63 (lv_at hl 8 rfl) ?_
        have hC9 : ([3, 4, 5]).map (fun i => (wd_X8_addBoundary G h_this h_values h_values_cells h_o1 h_o1_products h_o1_quotients h_o1_products_cells f_modulus a_values_cells f_o1_size f_o1_badColumn a_o1_products_cells)[i]?) = (wd_X5_product G h_o1 h_o1_products h_o1_quotients h_o1_products_cells f_o1_size f_o1_badColumn a_o1_products_cells).map some := rfl
        refine qn_callI (wd := (fun u : Unit => wd_X8_addBoundary G h_this h_values h_values_cells h_o1 h_o1_products h_o1_quotients h_o1_products_cells f_modulus a_values_cells f_o1_size f_o1_badColumn a_o1_products_cells)) [3, 4, 5] (va_runV (As := [.int x5, .int x6]) (rest := []) ⟨hx, hb, hml, hown, hts⟩ (c_X5_product G _ h_o1 h_o1_products h_o1_quotients h_o1_products_cells f_o1_size f_o1_badColumn a_o1_products_cells x5 x6 hw) (cwV 2 hts gX8_addBoundary_X5_product rfl rfl rfl (by decide +kernel) ⟨Nat.le_of_ble_eq_true rfl, Nat.le_of_ble_eq_true rfl⟩) (qn_preV hE hP hD [3, 4, 5] hC9 (by decide +kernel) (ci := 5) rfl rfl) rfl rfl hl.1 rfl (lv_room (Nat.le_of_ble_eq_true rfl)) dX8_addBoundary_65 ⟨Nat.le_of_ble_eq_true rfl, Nat.le_of_ble_eq_true rfl⟩) hP hD hS hA hC9 [none, none, none, some 0, some 1, some 2] (M := 6) rfl (by decide +kernel) (fun _ => rfl) (fun _ => rfl) (fun r_37 _ H locs hw hP hD hS => ?_)
        try dsimp only at hw
        have hP : va_P G.1 vwCl (wd_X8_addBoundary G h_this h_values h_values_cells h_o1 h_o1_products h_o1_quotients h_o1_products_cells f_modulus a_values_cells f_o1_size f_o1_badColumn a_o1_products_cells) H := hP
        have hD : va_D A (wd_X8_addBoundary G h_this h_values h_values_cells h_o1 h_o1_products h_o1_quotients h_o1_products_cells f_modulus a_values_cells f_o1_size f_o1_badColumn a_o1_products_cells) := hD
        refine lv_iload_n hx hb dX8_addBoundary_68 rfl (lv_at hl 4 rfl) ?_
        refine lv_icmp_ne (tgt := 82) hx hb dX8_addBoundary_69 (by decide) (fun c_38 => ?_) (fun c_38 => ?_)
        · have hw := hw.1 c_38
          refine lv_iload hx hb dX8_addBoundary_82 (lv_at hl 0 rfl) ?_
          refine lv_istore (lv' := [(9, .int r_36), (8, .int r_36), (7, .int r_3), (0, .ref h_this), (1, .ref h_o1), (2, .int x2), (3, .int x3), (4, .int x4), (5, .int x5), (6, .int x6)]) hx hb dX8_addBoundary_84 hl (by decide) rfl (fun ls hl => ?_)
          refine lv_aload_n hx hb dX8_addBoundary_86 rfl (lv_at hl 3 rfl) ?_
          refine va_get (D := G.1) (ci := 8) (v := .ref h_values) (C := RX8) (T := TX8) (N := 2) hx hb hts in_X8_addBoundary_X8 hown hE.1 hP 0 rfl rfl 1 (by decide) (hts (.fieldLink RX8 18 "QuandleColorings$Weights" "values" "LQuandleColorings$Grid;") lk_X8_addBoundary_18) (fun _ h9 => h9) rfl dX8_addBoundary_87 ?_
          refine lv_iload hx hb dX8_addBoundary_90 (lv_at hl 8 rfl) ?_
          refine lv_iload hx hb dX8_addBoundary_92 (lv_at hl 9 rfl) ?_
          refine lv_iload hx hb dX8_addBoundary_94 (lv_at hl 0 rfl) ?_
          have hC9 : ([1, 2]).map (fun i => (wd_X8_addBoundary G h_this h_values h_values_cells h_o1 h_o1_products h_o1_quotients h_o1_products_cells f_modulus a_values_cells f_o1_size f_o1_badColumn a_o1_products_cells)[i]?) = (wd_X2_put G h_values h_values_cells a_values_cells).map some := rfl
          refine qn_callV (wd := (fun u : (Nat → Int32) => wd_X8_addBoundary G h_this h_values h_values_cells h_o1 h_o1_products h_o1_quotients h_o1_products_cells f_modulus u f_o1_size f_o1_badColumn a_o1_products_cells)) [1, 2] (va_runV (As := [.int x5, .int x6, .int r_36]) (rest := []) ⟨hx, hb, hml, hown, hts⟩ (c_X2_put G _ h_values h_values_cells a_values_cells x5 x6 r_36 hw) (cwV 3 hts gX8_addBoundary_X2_put rfl rfl rfl (by decide +kernel) ⟨Nat.le_of_ble_eq_true rfl, Nat.le_of_ble_eq_true rfl⟩) (qn_preV hE hP hD [1, 2] hC9 (by decide +kernel) (ci := 2) rfl rfl) rfl rfl hl.1 rfl (lv_room (Nat.le_of_ble_eq_true rfl)) dX8_addBoundary_96 ⟨Nat.le_of_ble_eq_true rfl, Nat.le_of_ble_eq_true rfl⟩) hP hD hS hA hC9 [none, some 0, some 1, none, none, none] (M := 6) rfl (by decide +kernel) (fun _ => rfl) (fun _ => rfl) (fun a_values_cells_39 H locs hw hP hD hS => ?_)
          try dsimp only at hw
          have hP : va_P G.1 vwCl (wd_X8_addBoundary G h_this h_values h_values_cells h_o1 h_o1_products h_o1_quotients h_o1_products_cells f_modulus a_values_cells_39 f_o1_size f_o1_badColumn a_o1_products_cells) H := hP
          have hD : va_D A (wd_X8_addBoundary G h_this h_values h_values_cells h_o1 h_o1_products h_o1_quotients h_o1_products_cells f_modulus a_values_cells_39 f_o1_size f_o1_badColumn a_o1_products_cells) := hD
          refine lv_iload hx hb dX8_addBoundary_99 (lv_at hl 0 rfl) ?_
          refine lv_iload hx hb dX8_addBoundary_101 (lv_at hl 2 rfl) ?_
          refine lv_icmp_eq (tgt := 109) hx hb dX8_addBoundary_103 (by decide) (fun c_40 => ?_) (fun c_40 => ?_)
          · have hw := hw.1 c_40
            obtain ⟨x6_41, ex6_41⟩ : ∃ y : Int32, y = x6 + 1 := ⟨_, rfl⟩
            have hw := hw x6_41 ex6_41
            refine lv_iinc (v := x6_41) (lv' := [(6, .int x6_41), (9, .int r_36), (8, .int r_36), (7, .int r_3), (0, .ref h_this), (1, .ref h_o1), (2, .int x2), (3, .int x3), (4, .int x4), (5, .int x5)]) hx hb dX8_addBoundary_109 hl (k := 9) rfl (by rw [ex6_41]; rfl) (by decide) rfl (fun ls hl => ?_)
            refine lv_goto (tgt := 18) hx hb dX8_addBoundary_112 (by decide) ?_
            exact ih x4 x6_41 a_values_cells_39 hw _ _ _ hP hD hS (lv_sub hl [4, 5, 6, 7, 8, 9, 0] rfl)
          · have hw := hw.2 c_40
            obtain ⟨x4_42, ex4_42⟩ : ∃ y : Int32, y = x4 + 1 := ⟨_, rfl⟩
            have hw := hw x4_42 ex4_42
            refine lv_iinc (v := x4_42) (lv' := [(4, .int x4_42), (9, .int r_36), (8, .int r_36), (7, .int r_3), (0, .ref h_this), (1, .ref h_o1), (2, .int x2), (3, .int x3), (5, .int x5), (6, .int x6)]) hx hb dX8_addBoundary_106 hl (k := 7) rfl (by rw [ex4_42]; rfl) (by decide) rfl (fun ls hl => ?_)
            obtain ⟨x6_43, ex6_43⟩ : ∃ y : Int32, y = x6 + 1 := ⟨_, rfl⟩
            have hw := hw x6_43 ex6_43
            refine lv_iinc (v := x6_43) (lv' := [(6, .int x6_43), (4, .int x4_42), (9, .int r_36), (8, .int r_36), (7, .int r_3), (0, .ref h_this), (1, .ref h_o1), (2, .int x2), (3, .int x3), (5, .int x5)]) hx hb dX8_addBoundary_109 hl (k := 9) rfl (by rw [ex6_43]; rfl) (by decide) rfl (fun ls hl => ?_)
            refine lv_goto (tgt := 18) hx hb dX8_addBoundary_112 (by decide) ?_
            exact ih x4_42 x6_43 a_values_cells_39 hw _ _ _ hP hD hS (lv_sub hl [5, 6, 7, 8, 1, 9, 0] rfl)
        · have hw := hw.2 c_38
          refine lv_aload_n hx hb dX8_addBoundary_72 rfl (lv_at hl 2 rfl) ?_
          refine lv_iload hx hb dX8_addBoundary_73 (lv_at hl 0 rfl) ?_
          refine lv_iload_n hx hb dX8_addBoundary_75 rfl (lv_at hl 5 rfl) ?_
          have hC9 : ([0]).map (fun i => (wd_X8_addBoundary G h_this h_values h_values_cells h_o1 h_o1_products h_o1_quotients h_o1_products_cells f_modulus a_values_cells f_o1_size f_o1_badColumn a_o1_products_cells)[i]?) = (wd_X8_minus G h_this h_values f_modulus).map some := rfl
          refine qn_callI (wd := (fun u : Unit => wd_X8_addBoundary G h_this h_values h_values_cells h_o1 h_o1_products h_o1_quotients h_o1_products_cells f_modulus a_values_cells f_o1_size f_o1_badColumn a_o1_products_cells)) [0] (va_runV (As := [.int r_36, .int x3]) (rest := []) ⟨hx, hb, hml, hown, hts⟩ (c_X8_minus G _ h_this h_values f_modulus r_36 x3 hw) (cwV 2 hts gX8_addBoundary_X8_minus rfl rfl rfl (by decide +kernel) ⟨Nat.le_of_ble_eq_true rfl, Nat.le_of_ble_eq_true rfl⟩) (qn_preV hE hP hD [0] hC9 (by decide +kernel) (ci := 8) rfl rfl) rfl rfl hl.1 rfl (lv_room (Nat.le_of_ble_eq_true rfl)) dX8_addBoundary_76 ⟨Nat.le_of_ble_eq_true rfl, Nat.le_of_ble_eq_true rfl⟩) hP hD hS hA hC9 [some 0, none, none, none, none, none] (M := 6) rfl (by decide +kernel) (fun _ => rfl) (fun _ => rfl) (fun r_44 _ H locs hw hP hD hS => ?_)
          try dsimp only at hw
          have hP : va_P G.1 vwCl (wd_X8_addBoundary G h_this h_values h_values_cells h_o1 h_o1_products h_o1_quotients h_o1_products_cells f_modulus a_values_cells f_o1_size f_o1_badColumn a_o1_products_cells) H := hP
          have hD : va_D A (wd_X8_addBoundary G h_this h_values h_values_cells h_o1 h_o1_products h_o1_quotients h_o1_products_cells f_modulus a_values_cells f_o1_size f_o1_badColumn a_o1_products_cells) := hD
          refine lv_goto (tgt := 84) hx hb dX8_addBoundary_79 (by decide) ?_
          refine lv_istore (lv' := [(9, .int r_44), (8, .int r_36), (7, .int r_3), (0, .ref h_this), (1, .ref h_o1), (2, .int x2), (3, .int x3), (4, .int x4), (5, .int x5), (6, .int x6)]) hx hb dX8_addBoundary_84 hl (by decide) rfl (fun ls hl => ?_)
          refine lv_aload_n hx hb dX8_addBoundary_86 rfl (lv_at hl 3 rfl) ?_
          refine va_get (D := G.1) (ci := 8) (v := .ref h_values) (C := RX8) (T := TX8) (N := 2) hx hb hts in_X8_addBoundary_X8 hown hE.1 hP 0 rfl rfl 1 (by decide) (hts (.fieldLink RX8 18 "QuandleColorings$Weights" "values" "LQuandleColorings$Grid;") lk_X8_addBoundary_18) (fun _ h9 => h9) rfl dX8_addBoundary_87 ?_
          refine lv_iload hx hb dX8_addBoundary_90 (lv_at hl 8 rfl) ?_
          refine lv_iload hx hb dX8_addBoundary_92 (lv_at hl 9 rfl) ?_
          refine lv_iload hx hb dX8_addBoundary_94 (lv_at hl 0 rfl) ?_
          have hC9 : ([1, 2]).map (fun i => (wd_X8_addBoundary G h_this h_values h_values_cells h_o1 h_o1_products h_o1_quotients h_o1_products_cells f_modulus a_values_cells f_o1_size f_o1_badColumn a_o1_products_cells)[i]?) = (wd_X2_put G h_values h_values_cells a_values_cells).map some := rfl
          refine qn_callV (wd := (fun u : (Nat → Int32) => wd_X8_addBoundary G h_this h_values h_values_cells h_o1 h_o1_products h_o1_quotients h_o1_products_cells f_modulus u f_o1_size f_o1_badColumn a_o1_products_cells)) [1, 2] (va_runV (As := [.int x5, .int x6, .int r_44]) (rest := []) ⟨hx, hb, hml, hown, hts⟩ (c_X2_put G _ h_values h_values_cells a_values_cells x5 x6 r_44 hw) (cwV 3 hts gX8_addBoundary_X2_put rfl rfl rfl (by decide +kernel) ⟨Nat.le_of_ble_eq_true rfl, Nat.le_of_ble_eq_true rfl⟩) (qn_preV hE hP hD [1, 2] hC9 (by decide +kernel) (ci := 2) rfl rfl) rfl rfl hl.1 rfl (lv_room (Nat.le_of_ble_eq_true rfl)) dX8_addBoundary_96 ⟨Nat.le_of_ble_eq_true rfl, Nat.le_of_ble_eq_true rfl⟩) hP hD hS hA hC9 [none, some 0, some 1, none, none, none] (M := 6) rfl (by decide +kernel) (fun _ => rfl) (fun _ => rfl) (fun a_values_cells_45 H locs hw hP hD hS => ?_)
          try dsimp only at hw
          have hP : va_P G.1 vwCl (wd_X8_addBoundary G h_this h_values h_values_cells h_o1 h_o1_products h_o1_quotients h_o1_products_cells f_modulus a_values_cells_45 f_o1_size f_o1_badColumn a_o1_products_cells) H := hP
          have hD : va_D A (wd_X8_addBoundary G h_this h_values h_values_cells h_o1 h_o1_products h_o1_quotients h_o1_products_cells f_modulus a_values_cells_45 f_o1_size f_o1_badColumn a_o1_products_cells) := hD
          refine lv_iload hx hb dX8_addBoundary_99 (lv_at hl 0 rfl) ?_
          refine lv_iload hx hb dX8_addBoundary_101 (lv_at hl 2 rfl) ?_
          refine lv_icmp_eq (tgt := 109) hx hb dX8_addBoundary_103 (by decide) (fun c_46 => ?_) (fun c_46 => ?_)
          · have hw := hw.1 c_46
            obtain ⟨x6_47, ex6_47⟩ : ∃ y : Int32, y = x6 + 1 := ⟨_, rfl⟩
            have hw := hw x6_47 ex6_47
            refine lv_iinc (v := x6_47) (lv' := [(6, .int x6_47), (9, .int r_44), (8, .int r_36), (7, .int r_3), (0, .ref h_this), (1, .ref h_o1), (2, .int x2), (3, .int x3), (4, .int x4), (5, .int x5)]) hx hb dX8_addBoundary_109 hl (k := 9) rfl (by rw [ex6_47]; rfl) (by decide) rfl (fun ls hl => ?_)
            refine lv_goto (tgt := 18) hx hb dX8_addBoundary_112 (by decide) ?_
            exact ih x4 x6_47 a_values_cells_45 hw _ _ _ hP hD hS (lv_sub hl [4, 5, 6, 7, 8, 9, 0] rfl)
          · have hw := hw.2 c_46
            obtain ⟨x4_48, ex4_48⟩ : ∃ y : Int32, y = x4 + 1 := ⟨_, rfl⟩
            have hw := hw x4_48 ex4_48
            refine lv_iinc (v := x4_48) (lv' := [(4, .int x4_48), (9, .int r_44), (8, .int r_36), (7, .int r_3), (0, .ref h_this), (1, .ref h_o1), (2, .int x2), (3, .int x3), (5, .int x5), (6, .int x6)]) hx hb dX8_addBoundary_106 hl (k := 7) rfl (by rw [ex4_48]; rfl) (by decide) rfl (fun ls hl => ?_)
            obtain ⟨x6_49, ex6_49⟩ : ∃ y : Int32, y = x6 + 1 := ⟨_, rfl⟩
            have hw := hw x6_49 ex6_49
            refine lv_iinc (v := x6_49) (lv' := [(6, .int x6_49), (4, .int x4_48), (9, .int r_44), (8, .int r_36), (7, .int r_3), (0, .ref h_this), (1, .ref h_o1), (2, .int x2), (3, .int x3), (5, .int x5)]) hx hb dX8_addBoundary_109 hl (k := 9) rfl (by rw [ex6_49]; rfl) (by decide) rfl (fun ls hl => ?_)
            refine lv_goto (tgt := 18) hx hb dX8_addBoundary_112 (by decide) ?_
            exact ih x4_48 x6_49 a_values_cells_45 hw _ _ _ hP hD hS (lv_sub hl [5, 6, 7, 8, 1, 9, 0] rfl)
set_option maxHeartbeats 4000000 in
set_option maxRecDepth 100000 in
theorem l_X8_addBoundary_6 {p : Program} {l : Launch} {e : Env} {s : State} {m : MethodId} {args : Array Value} {below : List Frame} {meth : Method} {c : Code} {G : qn_G} {A : Nat → Prop} {h_this h_values h_values_cells h_o1 h_o1_products h_o1_quotients h_o1_products_cells : Nat} {f_modulus : Int32} {f_o1_size : Int32} {f_o1_badColumn : Int32} {a_o1_products_cells : Nat → Int32} {x2 : Int32} {x3 : Int32} {post : Int32 → (Nat → Int32) → Prop} {KL6 : Int32 → (Nat → Int32) → Prop} (C0 : qn_C p m c cX8_addBoundary 10 s args wsX8_addBoundary RX8 meth (some .int)) (hE : qn_EV G s) (hA : ∀ q, s.heap.size ≤ q → A q) (hKc : ∀ (x4 : Int32) (a_values_cells : Nat → Int32), KL6 x4 a_values_cells → ∀ (H : Heap) (locs : List Loc) (ls : Array Slot), va_P G.1 vwCl (wd_X8_addBoundary G h_this h_values h_values_cells h_o1 h_o1_products h_o1_quotients h_o1_products_cells f_modulus a_values_cells f_o1_size f_o1_badColumn a_o1_products_cells) H → va_D A (wd_X8_addBoundary G h_this h_values h_values_cells h_o1 h_o1_products h_o1_quotients h_o1_products_cells f_modulus a_values_cells f_o1_size f_o1_badColumn a_o1_products_cells) → va_S A s.heap H locs → lv_has ls 10 [(4, .int x4)] → W p l e (headSpec wsX8_addBoundary rm_X8_addBoundary).room s m args below meth c H locs 0 0 (MQ below (qn_QI G (fun (r : Int32) (u : (Nat → Int32)) => post r u) (fun u : (Nat → Int32) => wd_X8_addBoundary G h_this h_values h_values_cells h_o1 h_o1_products h_o1_quotients h_o1_products_cells f_modulus u f_o1_size f_o1_badColumn a_o1_products_cells) A) args s 0 0 A) (F0 m 121 ls [])) :
    ∀ (fu : Nat) (x4 : Int32) (x5 : Int32) (a_values_cells : Nat → Int32), wp_X8_addBoundary_L6 KL6 x2 x3 f_modulus f_o1_size a_o1_products_cells fu x4 x5 a_values_cells → ∀ (H : Heap) (locs : List Loc) (ls : Array Slot), va_P G.1 vwCl (wd_X8_addBoundary G h_this h_values h_values_cells h_o1 h_o1_products h_o1_quotients h_o1_products_cells f_modulus a_values_cells f_o1_size f_o1_badColumn a_o1_products_cells) H → va_D A (wd_X8_addBoundary G h_this h_values h_values_cells h_o1 h_o1_products h_o1_quotients h_o1_products_cells f_modulus a_values_cells f_o1_size f_o1_badColumn a_o1_products_cells) → va_S A s.heap H locs → lv_has ls 10 [(0, .ref h_this), (1, .ref h_o1), (2, .int x2), (3, .int x3), (4, .int x4), (5, .int x5)] → W p l e (headSpec wsX8_addBoundary rm_X8_addBoundary).room s m args below meth c H locs 0 0 (MQ below (qn_QI G (fun (r : Int32) (u : (Nat → Int32)) => post r u) (fun u : (Nat → Int32) => wd_X8_addBoundary G h_this h_values h_values_cells h_o1 h_o1_products h_o1_quotients h_o1_products_cells f_modulus u f_o1_size f_o1_badColumn a_o1_products_cells) A) args s 0 0 A) (F0 m 6 ls []) := by
  obtain ⟨hx, hb, hml, hown, hts, hr, hlocks⟩ := id C0
  intro fu
  induction fu with
  | zero => intro x4 x5 a_values_cells hw; exact hw.elim
  | succ fu ih =>
    intro x4 x5 a_values_cells hw H locs ls hP hD hS hl
    refine lv_iload hx hb dX8_addBoundary_6 (lv_at hl 5 rfl) ?_
    refine lv_aload_n hx hb dX8_addBoundary_8 rfl (lv_at hl 1 rfl) ?_
    refine va_getN (D := G.1) (ci := 5) (v := .int f_o1_size) (C := RX5) (T := TX5) (N := 4) hx hb hts in_X8_addBoundary_X5 hown hE.1 hP 3 rfl rfl 0 (by decide) (va_Nw.use rfl (qn_f_Weights_29 hE.2.1)) (fun _ h9 => h9) rfl dX8_addBoundary_9 ?_
    refine lv_icmp_ge (tgt := 121) hx hb dX8_addBoundary_12 (by decide) (fun c_1 => ?_) (fun c_1 => ?_)
    · have hw := hw.1 c_1
      exact hKc x4 a_values_cells hw _ _ _ hP hD hS (lv_sub hl [4] rfl)
    · have hw := hw.2 c_1
      refine lv_iconst (v := 0) hx hb dX8_addBoundary_15 (by decide) ?_
      refine lv_istore (lv' := [(6, .int 0), (0, .ref h_this), (1, .ref h_o1), (2, .int x2), (3, .int x3), (4, .int x4), (5, .int x5)]) hx hb dX8_addBoundary_16 hl (by decide) rfl (fun ls hl => ?_)
      obtain ⟨fu_53, hw⟩ := hw
      refine l_X8_addBoundary_18 (post := post) C0 hE hA (fun x4_50 a_values_cells_51 hw H locs ls hP hD hS hl => ?_) fu_53 x4 0 a_values_cells hw _ _ _ hP hD hS (lv_sub hl [1, 2, 3, 4, 5, 6, 0] rfl)
      obtain ⟨x5_52, ex5_52⟩ : ∃ y : Int32, y = x5 + 1 := ⟨_, rfl⟩
      have hw := hw x5_52 ex5_52
      refine lv_iinc (v := x5_52) (lv' := [(5, .int x5_52), (0, .ref h_this), (1, .ref h_o1), (2, .int x2), (3, .int x3), (4, .int x4_50)]) hx hb dX8_addBoundary_115 hl (k := 5) rfl (by rw [ex5_52]; rfl) (by decide) rfl (fun ls hl => ?_)
      refine lv_goto (tgt := 6) hx hb dX8_addBoundary_118 (by decide) ?_
      exact ih x4_50 x5_52 a_values_cells_51 hw _ _ _ hP hD hS (lv_sub hl [1, 2, 3, 4, 5, 0] rfl)
set_option maxHeartbeats 4000000 in
set_option maxRecDepth 100000 in
theorem c_X8_addBoundary {l : Launch} (G : qn_G) (sz : Nat) (h_this h_values h_values_cells h_o1 h_o1_products h_o1_quotients h_o1_products_cells : Nat) (f_modulus : Int32) (a_values_cells : Nat → Int32) (f_o1_size : Int32) (f_o1_badColumn : Int32) (a_o1_products_cells : Nat → Int32) (x2 : Int32) (x3 : Int32) {post : Int32 → (Nat → Int32) → Prop} (hw : wp_X8_addBoundary post f_modulus a_values_cells f_o1_size a_o1_products_cells x2 x3) : Met l yX8_addBoundary wsX8_addBoundary rm_X8_addBoundary (qn_PC G [.ref h_this, .ref h_o1, .int x2, .int x3] sz (wd_X8_addBoundary G h_this h_values h_values_cells h_o1 h_o1_products h_o1_quotients h_o1_products_cells f_modulus a_values_cells f_o1_size f_o1_badColumn a_o1_products_cells)) (qn_QI G (fun (r : Int32) (u : (Nat → Int32)) => post r u) (fun u : (Nat → Int32) => wd_X8_addBoundary G h_this h_values h_values_cells h_o1 h_o1_products h_o1_quotients h_o1_products_cells f_modulus u f_o1_size f_o1_badColumn a_o1_products_cells) (va_A (wd_X8_addBoundary G h_this h_values h_values_cells h_o1 h_o1_products h_o1_quotients h_o1_products_cells f_modulus a_values_cells f_o1_size f_o1_badColumn a_o1_products_cells) sz)) 0 0 (va_A (wd_X8_addBoundary G h_this h_values h_values_cells h_o1 h_o1_products h_o1_quotients h_o1_products_cells f_modulus a_values_cells f_o1_size f_o1_badColumn a_o1_products_cells) sz) := by
  refine Met.ofW (cc := cX8_addBoundary) (maxL := 10) (ret := (some .int)) (by decide) rfl ?_
  intro p e s m args below meth c s₁ B hml hv
  obtain ⟨rfl, hsz, hP, hE, hD0⟩ := hv
  have C0 : qn_C p m c cX8_addBoundary 10 s _ wsX8_addBoundary RX8 meth (some .int) := qn_C0 B hml
  obtain ⟨hx, hb, -, hown, hts, hr, hlocks⟩ := id C0
  subst hsz
  have hD := hD0.self (sz := s.heap.size)
  generalize hAe : va_A (wd_X8_addBoundary G h_this h_values h_values_cells h_o1 h_o1_products h_o1_quotients h_o1_products_cells f_modulus a_values_cells f_o1_size f_o1_badColumn a_o1_products_cells) s.heap.size = A at hD ⊢
  have hA : ∀ q : Nat, s.heap.size ≤ q → A q := fun q h => by rw [← hAe]; exact Or.inr h
  clear hAe
  have hS : va_S A s.heap s.heap [] := va_S.rf
  have hl := lv_entry ([.ref h_this, .ref h_o1, .int x2, .int x3]) (n := 10) (Nat.le_of_ble_eq_true rfl)
  rw [lg_entry_eq]
  generalize (lg_sl ([.ref h_this, .ref h_o1, .int x2, .int x3]) ++ List.replicate (10 - (lg_sl ([.ref h_this, .ref h_o1, .int x2, .int x3])).length) Slot.unset).toArray = ls at hl ⊢
  have hl : lv_has ls 10 [(0, .ref h_this), (1, .ref h_o1), (2, .int x2), (3, .int x3)] := hl
  have hP : va_P G.1 vwCl (wd_X8_addBoundary G h_this h_values h_values_cells h_o1 h_o1_products h_o1_quotients h_o1_products_cells f_modulus a_values_cells f_o1_size f_o1_badColumn a_o1_products_cells) s.heap := hP
  refine lv_iconst (v := 0) hx hb dX8_addBoundary_0 (by decide) ?_
  refine lv_istore (lv' := [(4, .int 0), (0, .ref h_this), (1, .ref h_o1), (2, .int x2), (3, .int x3)]) hx hb dX8_addBoundary_1 hl (by decide) rfl (fun ls hl => ?_)
  refine lv_iconst (v := 0) hx hb dX8_addBoundary_3 (by decide) ?_
  refine lv_istore (lv' := [(5, .int 0), (4, .int 0), (0, .ref h_this), (1, .ref h_o1), (2, .int x2), (3, .int x3)]) hx hb dX8_addBoundary_4 hl (by decide) rfl (fun ls hl => ?_)
  obtain ⟨fu_56, hw⟩ := hw
  refine l_X8_addBoundary_6 (post := post) C0 hE hA (fun x4_54 a_values_cells_55 hw H locs ls hP hD hS hl => ?_) fu_56 0 0 a_values_cells hw _ _ _ hP hD hS (lv_sub hl [2, 3, 4, 5, 1, 0] rfl)
  refine lv_iload hx hb dX8_addBoundary_121 (lv_at hl 0 rfl) ?_
  exact W.iret (v := x4_54) hx hb hr (fun t ht hW => ⟨⟨x4_54, a_values_cells_55, rfl, hw, by rw [ht]; exact hP, hD⟩, hS.F ht⟩) hS.2.2 dX8_addBoundary_123
-- QuandleColorings$Weights.isClosedAt(LQuandleColorings$Operation;III)Z
abbrev rm_X8_isClosedAt : Room := { frames := 3, cells := 0, slots := 0, locals := 65 }
abbrev wd_X8_isClosedAt (G : qn_G) (h_this h_values h_values_cells h_o1 h_o1_products h_o1_quotients h_o1_products_cells : Nat) (f_modulus : Int32) (a_values_cells : Nat → Int32) (f_o1_size : Int32) (f_o1_badColumn : Int32) (a_o1_products_cells : Nat → Int32) : va_W := [(h_this, .inr (8, [.int f_modulus, .ref h_values])), (h_values, .inr (2, [.ref h_values_cells])), (h_values_cells, .inl (G.2.1, 36, .inl a_values_cells)), (h_o1, .inr (5, [.int f_o1_size, .ref h_o1_products, .ref h_o1_quotients, .int f_o1_badColumn])), (h_o1_products, .inr (2, [.ref h_o1_products_cells])), (h_o1_products_cells, .inl (G.2.1, 36, .inl a_o1_products_cells))]
theorem in_X8_isClosedAt_X8 : ∀ w ∈ u_ws RX8 TX8 2, w ∈ wsX8_isClosedAt := by decide +kernel
theorem lk_X8_isClosedAt_18 : Cond.fieldLink RX8 18 "QuandleColorings$Weights" "values" "LQuandleColorings$Grid;" ∈ wsX8_isClosedAt := by decide +kernel
def wp_X8_isClosedAt (post : Int32 → Prop) (f_modulus : Int32) (a_values_cells : Nat → Int32) (a_o1_products_cells : Nat → Int32) (x2 : Int32) (x3 : Int32) (x4 : Int32) : Prop := (wp_X2_get (fun (r_1 : Int32) => (wp_X5_product (fun (r_2 : Int32) => (wp_X2_get (fun (r_3 : Int32) => (wp_X8_plus (fun (r_4 : Int32) => (wp_X5_product (fun (r_5 : Int32) => (wp_X5_product (fun (r_6 : Int32) => (wp_X2_get (fun (r_7 : Int32) => (wp_X2_get (fun (r_8 : Int32) => (wp_X8_plus (fun (r_9 : Int32) => ((¬ r_4 = r_9 → (post 0)) ∧ (r_4 = r_9 → (post 1)))) f_modulus r_8 r_7)) a_values_cells x2 x4)) a_values_cells r_5 r_6)) a_o1_products_cells x3 x4)) a_o1_products_cells x2 x4)) f_modulus r_1 r_3)) a_values_cells r_2 x4)) a_o1_products_cells x2 x3)) a_values_cells x2 x3)
set_option maxHeartbeats 4000000 in
set_option maxRecDepth 100000 in
theorem c_X8_isClosedAt {l : Launch} (G : qn_G) (sz : Nat) (h_this h_values h_values_cells h_o1 h_o1_products h_o1_quotients h_o1_products_cells : Nat) (f_modulus : Int32) (a_values_cells : Nat → Int32) (f_o1_size : Int32) (f_o1_badColumn : Int32) (a_o1_products_cells : Nat → Int32) (x2 : Int32) (x3 : Int32) (x4 : Int32) {post : Int32 → Prop} (hw : wp_X8_isClosedAt post f_modulus a_values_cells a_o1_products_cells x2 x3 x4) : Met l yX8_isClosedAt wsX8_isClosedAt rm_X8_isClosedAt (qn_PC G [.ref h_this, .ref h_o1, .int x2, .int x3, .int x4] sz (wd_X8_isClosedAt G h_this h_values h_values_cells h_o1 h_o1_products h_o1_quotients h_o1_products_cells f_modulus a_values_cells f_o1_size f_o1_badColumn a_o1_products_cells)) (qn_QI G (fun (r : Int32) (u : Unit) => post r) (fun u : Unit => wd_X8_isClosedAt G h_this h_values h_values_cells h_o1 h_o1_products h_o1_quotients h_o1_products_cells f_modulus a_values_cells f_o1_size f_o1_badColumn a_o1_products_cells) (va_A (wd_X8_isClosedAt G h_this h_values h_values_cells h_o1 h_o1_products h_o1_quotients h_o1_products_cells f_modulus a_values_cells f_o1_size f_o1_badColumn a_o1_products_cells) sz)) 0 0 (va_A (wd_X8_isClosedAt G h_this h_values h_values_cells h_o1 h_o1_products h_o1_quotients h_o1_products_cells f_modulus a_values_cells f_o1_size f_o1_badColumn a_o1_products_cells) sz) := by
  refine Met.ofW (cc := cX8_isClosedAt) (maxL := 7) (ret := (some .boolean)) (by decide) rfl ?_
  intro p e s m args below meth c s₁ B hml hv
  obtain ⟨rfl, hsz, hP, hE, hD0⟩ := hv
  have C0 : qn_C p m c cX8_isClosedAt 7 s _ wsX8_isClosedAt RX8 meth (some .boolean) := qn_C0 B hml
  obtain ⟨hx, hb, -, hown, hts, hr, hlocks⟩ := id C0
  subst hsz
  have hD := hD0.self (sz := s.heap.size)
  generalize hAe : va_A (wd_X8_isClosedAt G h_this h_values h_values_cells h_o1 h_o1_products h_o1_quotients h_o1_products_cells f_modulus a_values_cells f_o1_size f_o1_badColumn a_o1_products_cells) s.heap.size = A at hD ⊢
  have hA : ∀ q : Nat, s.heap.size ≤ q → A q := fun q h => by rw [← hAe]; exact Or.inr h
  clear hAe
  have hS : va_S A s.heap s.heap [] := va_S.rf
  have hl := lv_entry ([.ref h_this, .ref h_o1, .int x2, .int x3, .int x4]) (n := 7) (Nat.le_of_ble_eq_true rfl)
  rw [lg_entry_eq]
  generalize (lg_sl ([.ref h_this, .ref h_o1, .int x2, .int x3, .int x4]) ++ List.replicate (7 - (lg_sl ([.ref h_this, .ref h_o1, .int x2, .int x3, .int x4])).length) Slot.unset).toArray = ls at hl ⊢
  have hl : lv_has ls 7 [(0, .ref h_this), (1, .ref h_o1), (2, .int x2), (3, .int x3), (4, .int x4)] := hl
  have hP : va_P G.1 vwCl (wd_X8_isClosedAt G h_this h_values h_values_cells h_o1 h_o1_products h_o1_quotients h_o1_products_cells f_modulus a_values_cells f_o1_size f_o1_badColumn a_o1_products_cells) s.heap := hP
  refine lv_aload_n hx hb dX8_isClosedAt_0 rfl (lv_at hl 0 rfl) ?_
  refine lv_aload_n hx hb dX8_isClosedAt_1 rfl (lv_at hl 0 rfl) ?_
  refine va_get (D := G.1) (ci := 8) (v := .ref h_values) (C := RX8) (T := TX8) (N := 2) hx hb hts in_X8_isClosedAt_X8 hown hE.1 hP 0 rfl rfl 1 (by decide) (hts (.fieldLink RX8 18 "QuandleColorings$Weights" "values" "LQuandleColorings$Grid;") lk_X8_isClosedAt_18) (fun _ h9 => h9) rfl dX8_isClosedAt_2 ?_
  refine lv_iload_n hx hb dX8_isClosedAt_5 rfl (lv_at hl 2 rfl) ?_
  refine lv_iload_n hx hb dX8_isClosedAt_6 rfl (lv_at hl 3 rfl) ?_
  have hC9 : ([1, 2]).map (fun i => (wd_X8_isClosedAt G h_this h_values h_values_cells h_o1 h_o1_products h_o1_quotients h_o1_products_cells f_modulus a_values_cells f_o1_size f_o1_badColumn a_o1_products_cells)[i]?) = (wd_X2_get G h_values h_values_cells a_values_cells).map some := rfl
  refine qn_callI (wd := (fun u : Unit => wd_X8_isClosedAt G h_this h_values h_values_cells h_o1 h_o1_products h_o1_quotients h_o1_products_cells f_modulus a_values_cells f_o1_size f_o1_badColumn a_o1_products_cells)) [1, 2] (va_runV (As := [.int x2, .int x3]) (rest := [.ref h_this]) ⟨hx, hb, hml, hown, hts⟩ (c_X2_get G _ h_values h_values_cells a_values_cells x2 x3 hw) (cwV 2 hts gX8_isClosedAt_X2_get rfl rfl rfl (by decide +kernel) ⟨Nat.le_of_ble_eq_true rfl, Nat.le_of_ble_eq_true rfl⟩) (qn_preV hE hP hD [1, 2] hC9 (by decide +kernel) (ci := 2) rfl rfl) rfl rfl hl.1 rfl (lv_room (Nat.le_of_ble_eq_true rfl)) dX8_isClosedAt_7 ⟨Nat.le_of_ble_eq_true rfl, Nat.le_of_ble_eq_true rfl⟩) hP hD hS hA hC9 [none, some 0, some 1, none, none, none] (M := 6) rfl (by decide +kernel) (fun _ => rfl) (fun _ => rfl) (fun r_1 _ H locs hw hP hD hS => ?_)
  try dsimp only at hw
  have hP : va_P G.1 vwCl (wd_X8_isClosedAt G h_this h_values h_values_cells h_o1 h_o1_products h_o1_quotients h_o1_products_cells f_modulus a_values_cells f_o1_size f_o1_badColumn a_o1_products_cells) H := hP
  have hD : va_D A (wd_X8_isClosedAt G h_this h_values h_values_cells h_o1 h_o1_products h_o1_quotients h_o1_products_cells f_modulus a_values_cells f_o1_size f_o1_badColumn a_o1_products_cells) := hD
  refine lv_aload_n hx hb dX8_isClosedAt_10 rfl (lv_at hl 0 rfl) ?_
  refine va_get (D := G.1) (ci := 8) (v := .ref h_values) (C := RX8) (T := TX8) (N := 2) hx hb hts in_X8_isClosedAt_X8 hown hE.1 hP 0 rfl rfl 1 (by decide) (hts (.fieldLink RX8 18 "QuandleColorings$Weights" "values" "LQuandleColorings$Grid;") lk_X8_isClosedAt_18) (fun _ h9 => h9) rfl dX8_isClosedAt_11 ?_
  refine lv_aload_n hx hb dX8_isClosedAt_14 rfl (lv_at hl 1 rfl) ?_
  refine lv_iload_n hx hb dX8_isClosedAt_15 rfl (lv_at hl 2 rfl) ?_
  refine lv_iload_n hx hb dX8_isClosedAt_16 rfl (lv_at hl 3 rfl) ?_
  have hC9 : ([3, 4, 5]).map (fun i => (wd_X8_isClosedAt G h_this h_values h_values_cells h_o1 h_o1_products h_o1_quotients h_o1_products_cells f_modulus a_values_cells f_o1_size f_o1_badColumn a_o1_products_cells)[i]?) = (wd_X5_product G h_o1 h_o1_products h_o1_quotients h_o1_products_cells f_o1_size f_o1_badColumn a_o1_products_cells).map some := rfl
  refine qn_callI (wd := (fun u : Unit => wd_X8_isClosedAt G h_this h_values h_values_cells h_o1 h_o1_products h_o1_quotients h_o1_products_cells f_modulus a_values_cells f_o1_size f_o1_badColumn a_o1_products_cells)) [3, 4, 5] (va_runV (As := [.int x2, .int x3]) (rest := [.ref h_values, .int r_1, .ref h_this]) ⟨hx, hb, hml, hown, hts⟩ (c_X5_product G _ h_o1 h_o1_products h_o1_quotients h_o1_products_cells f_o1_size f_o1_badColumn a_o1_products_cells x2 x3 hw) (cwV 2 hts gX8_isClosedAt_X5_product rfl rfl rfl (by decide +kernel) ⟨Nat.le_of_ble_eq_true rfl, Nat.le_of_ble_eq_true rfl⟩) (qn_preV hE hP hD [3, 4, 5] hC9 (by decide +kernel) (ci := 5) rfl rfl) rfl rfl hl.1 rfl (lv_room (Nat.le_of_ble_eq_true rfl)) dX8_isClosedAt_17 ⟨Nat.le_of_ble_eq_true rfl, Nat.le_of_ble_eq_true rfl⟩) hP hD hS hA hC9 [none, none, none, some 0, some 1, some 2] (M := 6) rfl (by decide +kernel) (fun _ => rfl) (fun _ => rfl) (fun r_2 _ H locs hw hP hD hS => ?_)
  try dsimp only at hw
  have hP : va_P G.1 vwCl (wd_X8_isClosedAt G h_this h_values h_values_cells h_o1 h_o1_products h_o1_quotients h_o1_products_cells f_modulus a_values_cells f_o1_size f_o1_badColumn a_o1_products_cells) H := hP
  have hD : va_D A (wd_X8_isClosedAt G h_this h_values h_values_cells h_o1 h_o1_products h_o1_quotients h_o1_products_cells f_modulus a_values_cells f_o1_size f_o1_badColumn a_o1_products_cells) := hD
  refine lv_iload hx hb dX8_isClosedAt_20 (lv_at hl 4 rfl) ?_
  have hC9 : ([1, 2]).map (fun i => (wd_X8_isClosedAt G h_this h_values h_values_cells h_o1 h_o1_products h_o1_quotients h_o1_products_cells f_modulus a_values_cells f_o1_size f_o1_badColumn a_o1_products_cells)[i]?) = (wd_X2_get G h_values h_values_cells a_values_cells).map some := rfl
  refine qn_callI (wd := (fun u : Unit => wd_X8_isClosedAt G h_this h_values h_values_cells h_o1 h_o1_products h_o1_quotients h_o1_products_cells f_modulus a_values_cells f_o1_size f_o1_badColumn a_o1_products_cells)) [1, 2] (va_runV (As := [.int r_2, .int x4]) (rest := [.int r_1, .ref h_this]) ⟨hx, hb, hml, hown, hts⟩ (c_X2_get G _ h_values h_values_cells a_values_cells r_2 x4 hw) (cwV 2 hts gX8_isClosedAt_X2_get rfl rfl rfl (by decide +kernel) ⟨Nat.le_of_ble_eq_true rfl, Nat.le_of_ble_eq_true rfl⟩) (qn_preV hE hP hD [1, 2] hC9 (by decide +kernel) (ci := 2) rfl rfl) rfl rfl hl.1 rfl (lv_room (Nat.le_of_ble_eq_true rfl)) dX8_isClosedAt_22 ⟨Nat.le_of_ble_eq_true rfl, Nat.le_of_ble_eq_true rfl⟩) hP hD hS hA hC9 [none, some 0, some 1, none, none, none] (M := 6) rfl (by decide +kernel) (fun _ => rfl) (fun _ => rfl) (fun r_3 _ H locs hw hP hD hS => ?_)
  try dsimp only at hw
  have hP : va_P G.1 vwCl (wd_X8_isClosedAt G h_this h_values h_values_cells h_o1 h_o1_products h_o1_quotients h_o1_products_cells f_modulus a_values_cells f_o1_size f_o1_badColumn a_o1_products_cells) H := hP
  have hD : va_D A (wd_X8_isClosedAt G h_this h_values h_values_cells h_o1 h_o1_products h_o1_quotients h_o1_products_cells f_modulus a_values_cells f_o1_size f_o1_badColumn a_o1_products_cells) := hD
  have hC9 : ([0]).map (fun i => (wd_X8_isClosedAt G h_this h_values h_values_cells h_o1 h_o1_products h_o1_quotients h_o1_products_cells f_modulus a_values_cells f_o1_size f_o1_badColumn a_o1_products_cells)[i]?) = (wd_X8_plus G h_this h_values f_modulus).map some := rfl
  refine qn_callI (wd := (fun u : Unit => wd_X8_isClosedAt G h_this h_values h_values_cells h_o1 h_o1_products h_o1_quotients h_o1_products_cells f_modulus a_values_cells f_o1_size f_o1_badColumn a_o1_products_cells)) [0] (va_runV (As := [.int r_1, .int r_3]) (rest := []) ⟨hx, hb, hml, hown, hts⟩ (c_X8_plus G _ h_this h_values f_modulus r_1 r_3 hw) (cwV 2 hts gX8_isClosedAt_X8_plus rfl rfl rfl (by decide +kernel) ⟨Nat.le_of_ble_eq_true rfl, Nat.le_of_ble_eq_true rfl⟩) (qn_preV hE hP hD [0] hC9 (by decide +kernel) (ci := 8) rfl rfl) rfl rfl hl.1 rfl (lv_room (Nat.le_of_ble_eq_true rfl)) dX8_isClosedAt_25 ⟨Nat.le_of_ble_eq_true rfl, Nat.le_of_ble_eq_true rfl⟩) hP hD hS hA hC9 [some 0, none, none, none, none, none] (M := 6) rfl (by decide +kernel) (fun _ => rfl) (fun _ => rfl) (fun r_4 _ H locs hw hP hD hS => ?_)
  try dsimp only at hw
  have hP : va_P G.1 vwCl (wd_X8_isClosedAt G h_this h_values h_values_cells h_o1 h_o1_products h_o1_quotients h_o1_products_cells f_modulus a_values_cells f_o1_size f_o1_badColumn a_o1_products_cells) H := hP
  have hD : va_D A (wd_X8_isClosedAt G h_this h_values h_values_cells h_o1 h_o1_products h_o1_quotients h_o1_products_cells f_modulus a_values_cells f_o1_size f_o1_badColumn a_o1_products_cells) := hD
  refine lv_istore (lv' := [(5, .int r_4), (0, .ref h_this), (1, .ref h_o1), (2, .int x2), (3, .int x3), (4, .int x4)]) hx hb dX8_isClosedAt_28 hl (by decide) rfl (fun ls hl => ?_)
  refine lv_aload_n hx hb dX8_isClosedAt_30 rfl (lv_at hl 1 rfl) ?_
  refine va_get (D := G.1) (ci := 8) (v := .ref h_values) (C := RX8) (T := TX8) (N := 2) hx hb hts in_X8_isClosedAt_X8 hown hE.1 hP 0 rfl rfl 1 (by decide) (hts (.fieldLink RX8 18 "QuandleColorings$Weights" "values" "LQuandleColorings$Grid;") lk_X8_isClosedAt_18) (fun _ h9 => h9) rfl dX8_isClosedAt_31 ?_
  refine lv_aload_n hx hb dX8_isClosedAt_34 rfl (lv_at hl 2 rfl) ?_
  refine lv_iload_n hx hb dX8_isClosedAt_35 rfl (lv_at hl 3 rfl) ?_
  refine lv_iload hx hb dX8_isClosedAt_36 (lv_at hl 5 rfl) ?_
  have hC9 : ([3, 4, 5]).map (fun i => (wd_X8_isClosedAt G h_this h_values h_values_cells h_o1 h_o1_products h_o1_quotients h_o1_products_cells f_modulus a_values_cells f_o1_size f_o1_badColumn a_o1_products_cells)[i]?) = (wd_X5_product G h_o1 h_o1_products h_o1_quotients h_o1_products_cells f_o1_size f_o1_badColumn a_o1_products_cells).map some := rfl
  refine qn_callI (wd := (fun u : Unit => wd_X8_isClosedAt G h_this h_values h_values_cells h_o1 h_o1_products h_o1_quotients h_o1_products_cells f_modulus a_values_cells f_o1_size f_o1_badColumn a_o1_products_cells)) [3, 4, 5] (va_runV (As := [.int x2, .int x4]) (rest := [.ref h_values]) ⟨hx, hb, hml, hown, hts⟩ (c_X5_product G _ h_o1 h_o1_products h_o1_quotients h_o1_products_cells f_o1_size f_o1_badColumn a_o1_products_cells x2 x4 hw) (cwV 2 hts gX8_isClosedAt_X5_product rfl rfl rfl (by decide +kernel) ⟨Nat.le_of_ble_eq_true rfl, Nat.le_of_ble_eq_true rfl⟩) (qn_preV hE hP hD [3, 4, 5] hC9 (by decide +kernel) (ci := 5) rfl rfl) rfl rfl hl.1 rfl (lv_room (Nat.le_of_ble_eq_true rfl)) dX8_isClosedAt_38 ⟨Nat.le_of_ble_eq_true rfl, Nat.le_of_ble_eq_true rfl⟩) hP hD hS hA hC9 [none, none, none, some 0, some 1, some 2] (M := 6) rfl (by decide +kernel) (fun _ => rfl) (fun _ => rfl) (fun r_5 _ H locs hw hP hD hS => ?_)
  try dsimp only at hw
  have hP : va_P G.1 vwCl (wd_X8_isClosedAt G h_this h_values h_values_cells h_o1 h_o1_products h_o1_quotients h_o1_products_cells f_modulus a_values_cells f_o1_size f_o1_badColumn a_o1_products_cells) H := hP
  have hD : va_D A (wd_X8_isClosedAt G h_this h_values h_values_cells h_o1 h_o1_products h_o1_quotients h_o1_products_cells f_modulus a_values_cells f_o1_size f_o1_badColumn a_o1_products_cells) := hD
  refine lv_aload_n hx hb dX8_isClosedAt_41 rfl (lv_at hl 2 rfl) ?_
  refine lv_iload_n hx hb dX8_isClosedAt_42 rfl (lv_at hl 4 rfl) ?_
  refine lv_iload hx hb dX8_isClosedAt_43 (lv_at hl 5 rfl) ?_
  have hC9 : ([3, 4, 5]).map (fun i => (wd_X8_isClosedAt G h_this h_values h_values_cells h_o1 h_o1_products h_o1_quotients h_o1_products_cells f_modulus a_values_cells f_o1_size f_o1_badColumn a_o1_products_cells)[i]?) = (wd_X5_product G h_o1 h_o1_products h_o1_quotients h_o1_products_cells f_o1_size f_o1_badColumn a_o1_products_cells).map some := rfl
  refine qn_callI (wd := (fun u : Unit => wd_X8_isClosedAt G h_this h_values h_values_cells h_o1 h_o1_products h_o1_quotients h_o1_products_cells f_modulus a_values_cells f_o1_size f_o1_badColumn a_o1_products_cells)) [3, 4, 5] (va_runV (As := [.int x3, .int x4]) (rest := [.int r_5, .ref h_values]) ⟨hx, hb, hml, hown, hts⟩ (c_X5_product G _ h_o1 h_o1_products h_o1_quotients h_o1_products_cells f_o1_size f_o1_badColumn a_o1_products_cells x3 x4 hw) (cwV 2 hts gX8_isClosedAt_X5_product rfl rfl rfl (by decide +kernel) ⟨Nat.le_of_ble_eq_true rfl, Nat.le_of_ble_eq_true rfl⟩) (qn_preV hE hP hD [3, 4, 5] hC9 (by decide +kernel) (ci := 5) rfl rfl) rfl rfl hl.1 rfl (lv_room (Nat.le_of_ble_eq_true rfl)) dX8_isClosedAt_45 ⟨Nat.le_of_ble_eq_true rfl, Nat.le_of_ble_eq_true rfl⟩) hP hD hS hA hC9 [none, none, none, some 0, some 1, some 2] (M := 6) rfl (by decide +kernel) (fun _ => rfl) (fun _ => rfl) (fun r_6 _ H locs hw hP hD hS => ?_)
  try dsimp only at hw
  have hP : va_P G.1 vwCl (wd_X8_isClosedAt G h_this h_values h_values_cells h_o1 h_o1_products h_o1_quotients h_o1_products_cells f_modulus a_values_cells f_o1_size f_o1_badColumn a_o1_products_cells) H := hP
  have hD : va_D A (wd_X8_isClosedAt G h_this h_values h_values_cells h_o1 h_o1_products h_o1_quotients h_o1_products_cells f_modulus a_values_cells f_o1_size f_o1_badColumn a_o1_products_cells) := hD
  have hC9 : ([1, 2]).map (fun i => (wd_X8_isClosedAt G h_this h_values h_values_cells h_o1 h_o1_products h_o1_quotients h_o1_products_cells f_modulus a_values_cells f_o1_size f_o1_badColumn a_o1_products_cells)[i]?) = (wd_X2_get G h_values h_values_cells a_values_cells).map some := rfl
  refine qn_callI (wd := (fun u : Unit => wd_X8_isClosedAt G h_this h_values h_values_cells h_o1 h_o1_products h_o1_quotients h_o1_products_cells f_modulus a_values_cells f_o1_size f_o1_badColumn a_o1_products_cells)) [1, 2] (va_runV (As := [.int r_5, .int r_6]) (rest := []) ⟨hx, hb, hml, hown, hts⟩ (c_X2_get G _ h_values h_values_cells a_values_cells r_5 r_6 hw) (cwV 2 hts gX8_isClosedAt_X2_get rfl rfl rfl (by decide +kernel) ⟨Nat.le_of_ble_eq_true rfl, Nat.le_of_ble_eq_true rfl⟩) (qn_preV hE hP hD [1, 2] hC9 (by decide +kernel) (ci := 2) rfl rfl) rfl rfl hl.1 rfl (lv_room (Nat.le_of_ble_eq_true rfl)) dX8_isClosedAt_48 ⟨Nat.le_of_ble_eq_true rfl, Nat.le_of_ble_eq_true rfl⟩) hP hD hS hA hC9 [none, some 0, some 1, none, none, none] (M := 6) rfl (by decide +kernel) (fun _ => rfl) (fun _ => rfl) (fun r_7 _ H locs hw hP hD hS => ?_)
  try dsimp only at hw
  have hP : va_P G.1 vwCl (wd_X8_isClosedAt G h_this h_values h_values_cells h_o1 h_o1_products h_o1_quotients h_o1_products_cells f_modulus a_values_cells f_o1_size f_o1_badColumn a_o1_products_cells) H := hP
  have hD : va_D A (wd_X8_isClosedAt G h_this h_values h_values_cells h_o1 h_o1_products h_o1_quotients h_o1_products_cells f_modulus a_values_cells f_o1_size f_o1_badColumn a_o1_products_cells) := hD
  refine lv_istore (lv' := [(6, .int r_7), (5, .int r_4), (0, .ref h_this), (1, .ref h_o1), (2, .int x2), (3, .int x3), (4, .int x4)]) hx hb dX8_isClosedAt_51 hl (by decide) rfl (fun ls hl => ?_)
  refine lv_iload hx hb dX8_isClosedAt_53 (lv_at hl 1 rfl) ?_
  refine lv_aload_n hx hb dX8_isClosedAt_55 rfl (lv_at hl 2 rfl) ?_
  refine lv_aload_n hx hb dX8_isClosedAt_56 rfl (lv_at hl 2 rfl) ?_
  refine va_get (D := G.1) (ci := 8) (v := .ref h_values) (C := RX8) (T := TX8) (N := 2) hx hb hts in_X8_isClosedAt_X8 hown hE.1 hP 0 rfl rfl 1 (by decide) (hts (.fieldLink RX8 18 "QuandleColorings$Weights" "values" "LQuandleColorings$Grid;") lk_X8_isClosedAt_18) (fun _ h9 => h9) rfl dX8_isClosedAt_57 ?_
  refine lv_iload_n hx hb dX8_isClosedAt_60 rfl (lv_at hl 4 rfl) ?_
  refine lv_iload hx hb dX8_isClosedAt_61 (lv_at hl 6 rfl) ?_
  have hC9 : ([1, 2]).map (fun i => (wd_X8_isClosedAt G h_this h_values h_values_cells h_o1 h_o1_products h_o1_quotients h_o1_products_cells f_modulus a_values_cells f_o1_size f_o1_badColumn a_o1_products_cells)[i]?) = (wd_X2_get G h_values h_values_cells a_values_cells).map some := rfl
  refine qn_callI (wd := (fun u : Unit => wd_X8_isClosedAt G h_this h_values h_values_cells h_o1 h_o1_products h_o1_quotients h_o1_products_cells f_modulus a_values_cells f_o1_size f_o1_badColumn a_o1_products_cells)) [1, 2] (va_runV (As := [.int x2, .int x4]) (rest := [.ref h_this, .int r_4]) ⟨hx, hb, hml, hown, hts⟩ (c_X2_get G _ h_values h_values_cells a_values_cells x2 x4 hw) (cwV 2 hts gX8_isClosedAt_X2_get rfl rfl rfl (by decide +kernel) ⟨Nat.le_of_ble_eq_true rfl, Nat.le_of_ble_eq_true rfl⟩) (qn_preV hE hP hD [1, 2] hC9 (by decide +kernel) (ci := 2) rfl rfl) rfl rfl hl.1 rfl (lv_room (Nat.le_of_ble_eq_true rfl)) dX8_isClosedAt_63 ⟨Nat.le_of_ble_eq_true rfl, Nat.le_of_ble_eq_true rfl⟩) hP hD hS hA hC9 [none, some 0, some 1, none, none, none] (M := 6) rfl (by decide +kernel) (fun _ => rfl) (fun _ => rfl) (fun r_8 _ H locs hw hP hD hS => ?_)
  try dsimp only at hw
  have hP : va_P G.1 vwCl (wd_X8_isClosedAt G h_this h_values h_values_cells h_o1 h_o1_products h_o1_quotients h_o1_products_cells f_modulus a_values_cells f_o1_size f_o1_badColumn a_o1_products_cells) H := hP
  have hD : va_D A (wd_X8_isClosedAt G h_this h_values h_values_cells h_o1 h_o1_products h_o1_quotients h_o1_products_cells f_modulus a_values_cells f_o1_size f_o1_badColumn a_o1_products_cells) := hD
  refine lv_iload hx hb dX8_isClosedAt_66 (lv_at hl 0 rfl) ?_
  have hC9 : ([0]).map (fun i => (wd_X8_isClosedAt G h_this h_values h_values_cells h_o1 h_o1_products h_o1_quotients h_o1_products_cells f_modulus a_values_cells f_o1_size f_o1_badColumn a_o1_products_cells)[i]?) = (wd_X8_plus G h_this h_values f_modulus).map some := rfl
  refine qn_callI (wd := (fun u : Unit => wd_X8_isClosedAt G h_this h_values h_values_cells h_o1 h_o1_products h_o1_quotients h_o1_products_cells f_modulus a_values_cells f_o1_size f_o1_badColumn a_o1_products_cells)) [0] (va_runV (As := [.int r_8, .int r_7]) (rest := [.int r_4]) ⟨hx, hb, hml, hown, hts⟩ (c_X8_plus G _ h_this h_values f_modulus r_8 r_7 hw) (cwV 2 hts gX8_isClosedAt_X8_plus rfl rfl rfl (by decide +kernel) ⟨Nat.le_of_ble_eq_true rfl, Nat.le_of_ble_eq_true rfl⟩) (qn_preV hE hP hD [0] hC9 (by decide +kernel) (ci := 8) rfl rfl) rfl rfl hl.1 rfl (lv_room (Nat.le_of_ble_eq_true rfl)) dX8_isClosedAt_68 ⟨Nat.le_of_ble_eq_true rfl, Nat.le_of_ble_eq_true rfl⟩) hP hD hS hA hC9 [some 0, none, none, none, none, none] (M := 6) rfl (by decide +kernel) (fun _ => rfl) (fun _ => rfl) (fun r_9 _ H locs hw hP hD hS => ?_)
  try dsimp only at hw
  have hP : va_P G.1 vwCl (wd_X8_isClosedAt G h_this h_values h_values_cells h_o1 h_o1_products h_o1_quotients h_o1_products_cells f_modulus a_values_cells f_o1_size f_o1_badColumn a_o1_products_cells) H := hP
  have hD : va_D A (wd_X8_isClosedAt G h_this h_values h_values_cells h_o1 h_o1_products h_o1_quotients h_o1_products_cells f_modulus a_values_cells f_o1_size f_o1_badColumn a_o1_products_cells) := hD
  refine lv_icmp_ne (tgt := 78) hx hb dX8_isClosedAt_71 (by decide) (fun c_10 => ?_) (fun c_10 => ?_)
  · have hw := hw.1 c_10
    refine lv_iconst (v := 0) hx hb dX8_isClosedAt_78 (by decide) ?_
    exact W.zret (v := 0) hx hb hr (by decide) (fun t ht hW => ⟨⟨0, (), rfl, hw, by rw [ht]; exact hP, hD⟩, hS.F ht⟩) hS.2.2 dX8_isClosedAt_79
  · have hw := hw.2 c_10
    refine lv_iconst (v := 1) hx hb dX8_isClosedAt_74 (by decide) ?_
    refine lv_goto (tgt := 79) hx hb dX8_isClosedAt_75 (by decide) ?_
    exact W.zret (v := 1) hx hb hr (by decide) (fun t ht hW => ⟨⟨1, (), rfl, hw, by rw [ht]; exact hP, hD⟩, hS.F ht⟩) hS.2.2 dX8_isClosedAt_79
-- QuandleColorings$Weights.firstUnclosed(LQuandleColorings$Operation;)I
abbrev rm_X8_firstUnclosed : Room := { frames := 4, cells := 0, slots := 0, locals := 91 }
abbrev wd_X8_firstUnclosed (G : qn_G) (h_this h_values h_values_cells h_o1 h_o1_products h_o1_quotients h_o1_products_cells : Nat) (f_modulus : Int32) (a_values_cells : Nat → Int32) (f_o1_size : Int32) (f_o1_badColumn : Int32) (a_o1_products_cells : Nat → Int32) : va_W := [(h_this, .inr (8, [.int f_modulus, .ref h_values])), (h_values, .inr (2, [.ref h_values_cells])), (h_values_cells, .inl (G.2.1, 36, .inl a_values_cells)), (h_o1, .inr (5, [.int f_o1_size, .ref h_o1_products, .ref h_o1_quotients, .int f_o1_badColumn])), (h_o1_products, .inr (2, [.ref h_o1_products_cells])), (h_o1_products_cells, .inl (G.2.1, 36, .inl a_o1_products_cells))]
theorem in_X8_firstUnclosed_X5 : ∀ w ∈ u_ws RX5 TX5 4, w ∈ wsX8_firstUnclosed := by decide +kernel
def wp_X8_firstUnclosed_L23 (post : Int32 → Prop) (KL23 : Prop) (x2 : Int32) (x3 : Int32) (f_modulus : Int32) (a_values_cells : Nat → Int32) (f_o1_size : Int32) (a_o1_products_cells : Nat → Int32) : Nat → Int32 → Prop
  | 0 => fun _ => False
  | fu + 1 => fun x4 => ((f_o1_size ≤ x4 → KL23) ∧ (¬ f_o1_size ≤ x4 → (wp_X8_isClosedAt (fun (r_4 : Int32) => ((¬ r_4 = 0 → (∀ x4_6 : Int32, x4_6 = x4 + 1 → ((wp_X8_firstUnclosed_L23 post KL23 x2 x3 f_modulus a_values_cells f_o1_size a_o1_products_cells fu) x4_6))) ∧ (r_4 = 0 → (wp_X9_tripleCode (fun (r_7 : Int32) => (post r_7)) x2 x3 x4)))) f_modulus a_values_cells a_o1_products_cells x2 x3 x4)))
def wp_X8_firstUnclosed_L12 (post : Int32 → Prop) (KL12 : Prop) (x2 : Int32) (f_modulus : Int32) (a_values_cells : Nat → Int32) (f_o1_size : Int32) (a_o1_products_cells : Nat → Int32) : Nat → Int32 → Prop
  | 0 => fun _ => False
  | fu + 1 => fun x3 => ((f_o1_size ≤ x3 → KL12) ∧ (¬ f_o1_size ≤ x3 → (∃ fu_9 : Nat, wp_X8_firstUnclosed_L23 post (∀ x3_8 : Int32, x3_8 = x3 + 1 → ((wp_X8_firstUnclosed_L12 post KL12 x2 f_modulus a_values_cells f_o1_size a_o1_products_cells fu) x3_8)) x2 x3 f_modulus a_values_cells f_o1_size a_o1_products_cells fu_9 0)))
def wp_X8_firstUnclosed_L2 (post : Int32 → Prop) (KL2 : Prop) (f_modulus : Int32) (a_values_cells : Nat → Int32) (f_o1_size : Int32) (a_o1_products_cells : Nat → Int32) : Nat → Int32 → Prop
  | 0 => fun _ => False
  | fu + 1 => fun x2 => ((f_o1_size ≤ x2 → KL2) ∧ (¬ f_o1_size ≤ x2 → (∃ fu_11 : Nat, wp_X8_firstUnclosed_L12 post (∀ x2_10 : Int32, x2_10 = x2 + 1 → ((wp_X8_firstUnclosed_L2 post KL2 f_modulus a_values_cells f_o1_size a_o1_products_cells fu) x2_10)) x2 f_modulus a_values_cells f_o1_size a_o1_products_cells fu_11 0)))
def wp_X8_firstUnclosed (post : Int32 → Prop) (f_modulus : Int32) (a_values_cells : Nat → Int32) (f_o1_size : Int32) (a_o1_products_cells : Nat → Int32) : Prop := (∃ fu_12 : Nat, wp_X8_firstUnclosed_L2 post (post (-4)) f_modulus a_values_cells f_o1_size a_o1_products_cells fu_12 0)
set_option maxHeartbeats 4000000 in
set_option maxRecDepth 100000 in
theorem l_X8_firstUnclosed_23 {p : Program} {l : Launch} {e : Env} {s : State} {m : MethodId} {args : Array Value} {below : List Frame} {meth : Method} {c : Code} {G : qn_G} {A : Nat → Prop} {h_this h_values h_values_cells h_o1 h_o1_products h_o1_quotients h_o1_products_cells : Nat} {f_modulus : Int32} {a_values_cells : Nat → Int32} {f_o1_size : Int32} {f_o1_badColumn : Int32} {a_o1_products_cells : Nat → Int32} {x2 : Int32} {x3 : Int32} {post : Int32 → Prop} {KL23 : Prop} (C0 : qn_C p m c cX8_firstUnclosed 5 s args wsX8_firstUnclosed RX8 meth (some .int)) (hE : qn_EV G s) (hA : ∀ q, s.heap.size ≤ q → A q) (hKc : KL23 → ∀ (H : Heap) (locs : List Loc) (ls : Array Slot), va_P G.1 vwCl (wd_X8_firstUnclosed G h_this h_values h_values_cells h_o1 h_o1_products h_o1_quotients h_o1_products_cells f_modulus a_values_cells f_o1_size f_o1_badColumn a_o1_products_cells) H → va_D A (wd_X8_firstUnclosed G h_this h_values h_values_cells h_o1 h_o1_products h_o1_quotients h_o1_products_cells f_modulus a_values_cells f_o1_size f_o1_badColumn a_o1_products_cells) → va_S A s.heap H locs → lv_has ls 5 [(0, .ref h_this), (1, .ref h_o1), (2, .int x2), (3, .int x3)] → W p l e (headSpec wsX8_firstUnclosed rm_X8_firstUnclosed).room s m args below meth c H locs 0 0 (MQ below (qn_QI G (fun (r : Int32) (u : Unit) => post r) (fun u : Unit => wd_X8_firstUnclosed G h_this h_values h_values_cells h_o1 h_o1_products h_o1_quotients h_o1_products_cells f_modulus a_values_cells f_o1_size f_o1_badColumn a_o1_products_cells) A) args s 0 0 A) (F0 m 58 ls [])) :
    ∀ (fu : Nat) (x4 : Int32), wp_X8_firstUnclosed_L23 post KL23 x2 x3 f_modulus a_values_cells f_o1_size a_o1_products_cells fu x4 → ∀ (H : Heap) (locs : List Loc) (ls : Array Slot), va_P G.1 vwCl (wd_X8_firstUnclosed G h_this h_values h_values_cells h_o1 h_o1_products h_o1_quotients h_o1_products_cells f_modulus a_values_cells f_o1_size f_o1_badColumn a_o1_products_cells) H → va_D A (wd_X8_firstUnclosed G h_this h_values h_values_cells h_o1 h_o1_products h_o1_quotients h_o1_products_cells f_modulus a_values_cells f_o1_size f_o1_badColumn a_o1_products_cells) → va_S A s.heap H locs → lv_has ls 5 [(0, .ref h_this), (1, .ref h_o1), (2, .int x2), (3, .int x3), (4, .int x4)] → W p l e (headSpec wsX8_firstUnclosed rm_X8_firstUnclosed).room s m args below meth c H locs 0 0 (MQ below (qn_QI G (fun (r : Int32) (u : Unit) => post r) (fun u : Unit => wd_X8_firstUnclosed G h_this h_values h_values_cells h_o1 h_o1_products h_o1_quotients h_o1_products_cells f_modulus a_values_cells f_o1_size f_o1_badColumn a_o1_products_cells) A) args s 0 0 A) (F0 m 23 ls []) := by
  obtain ⟨hx, hb, hml, hown, hts, hr, hlocks⟩ := id C0
  intro fu
  induction fu with
  | zero => intro x4 hw; exact hw.elim
  | succ fu ih =>
    intro x4 hw H locs ls hP hD hS hl
    refine lv_iload hx hb dX8_firstUnclosed_23 (lv_at hl 4 rfl) ?_
    refine lv_aload_n hx hb dX8_firstUnclosed_25 rfl (lv_at hl 1 rfl) ?_
    refine va_getN (D := G.1) (ci := 5) (v := .int f_o1_size) (C := RX5) (T := TX5) (N := 4) hx hb hts in_X8_firstUnclosed_X5 hown hE.1 hP 3 rfl rfl 0 (by decide) (va_Nw.use rfl (qn_f_Weights_29 hE.2.1)) (fun _ h9 => h9) rfl dX8_firstUnclosed_26 ?_
    refine lv_icmp_ge (tgt := 58) hx hb dX8_firstUnclosed_29 (by decide) (fun c_3 => ?_) (fun c_3 => ?_)
    · have hw := hw.1 c_3
      exact hKc  hw _ _ _ hP hD hS (lv_sub hl [0, 1, 2, 3] rfl)
    · have hw := hw.2 c_3
      refine lv_aload_n hx hb dX8_firstUnclosed_32 rfl (lv_at hl 0 rfl) ?_
      refine lv_aload_n hx hb dX8_firstUnclosed_33 rfl (lv_at hl 1 rfl) ?_
      refine lv_iload_n hx hb dX8_firstUnclosed_34 rfl (lv_at hl 2 rfl) ?_
      refine lv_iload_n hx hb dX8_firstUnclosed_35 rfl (lv_at hl 3 rfl) ?_
      refine lv_iload hx hb dX8_firstUnclosed_36 (lv_at hl 4 rfl) ?_
      have hC9 : ([0, 1, 2, 3, 4, 5]).map (fun i => (wd_X8_firstUnclosed G h_this h_values h_values_cells h_o1 h_o1_products h_o1_quotients h_o1_products_cells f_modulus a_values_cells f_o1_size f_o1_badColumn a_o1_products_cells)[i]?) = (wd_X8_isClosedAt G h_this h_values h_values_cells h_o1 h_o1_products h_o1_quotients h_o1_products_cells f_modulus a_values_cells f_o1_size f_o1_badColumn a_o1_products_cells).map some := rfl
      refine qn_callI (wd := (fun u : Unit => wd_X8_firstUnclosed G h_this h_values h_values_cells h_o1 h_o1_products h_o1_quotients h_o1_products_cells f_modulus a_values_cells f_o1_size f_o1_badColumn a_o1_products_cells)) [0, 1, 2, 3, 4, 5] (va_runV (As := [.ref h_o1, .int x2, .int x3, .int x4]) (rest := []) ⟨hx, hb, hml, hown, hts⟩ (c_X8_isClosedAt G _ h_this h_values h_values_cells h_o1 h_o1_products h_o1_quotients h_o1_products_cells f_modulus a_values_cells f_o1_size f_o1_badColumn a_o1_products_cells x2 x3 x4 hw) (cwV 4 hts gX8_firstUnclosed_X8_isClosedAt rfl rfl rfl (by decide +kernel) ⟨Nat.le_of_ble_eq_true rfl, Nat.le_of_ble_eq_true rfl⟩) (qn_preV hE hP hD [0, 1, 2, 3, 4, 5] hC9 (by decide +kernel) (ci := 8) rfl rfl) rfl rfl hl.1 rfl (lv_room (Nat.le_of_ble_eq_true rfl)) dX8_firstUnclosed_38 ⟨Nat.le_of_ble_eq_true rfl, Nat.le_of_ble_eq_true rfl⟩) hP hD hS hA hC9 [some 0, some 1, some 2, some 3, some 4, some 5] (M := 6) rfl (by decide +kernel) (fun _ => rfl) (fun _ => rfl) (fun r_4 _ H locs hw hP hD hS => ?_)
      try dsimp only at hw
      have hP : va_P G.1 vwCl (wd_X8_firstUnclosed G h_this h_values h_values_cells h_o1 h_o1_products h_o1_quotients h_o1_products_cells f_modulus a_values_cells f_o1_size f_o1_badColumn a_o1_products_cells) H := hP
      have hD : va_D A (wd_X8_firstUnclosed G h_this h_values h_values_cells h_o1 h_o1_products h_o1_quotients h_o1_products_cells f_modulus a_values_cells f_o1_size f_o1_badColumn a_o1_products_cells) := hD
      refine lv_if_ne (tgt := 52) hx hb dX8_firstUnclosed_41 (by decide) (fun c_5 => ?_) (fun c_5 => ?_)
      · have hw := hw.1 c_5
        obtain ⟨x4_6, ex4_6⟩ : ∃ y : Int32, y = x4 + 1 := ⟨_, rfl⟩
        have hw := hw x4_6 ex4_6
        refine lv_iinc (v := x4_6) (lv' := [(4, .int x4_6), (0, .ref h_this), (1, .ref h_o1), (2, .int x2), (3, .int x3)]) hx hb dX8_firstUnclosed_52 hl (k := 4) rfl (by rw [ex4_6]; rfl) (by decide) rfl (fun ls hl => ?_)
        refine lv_goto (tgt := 23) hx hb dX8_firstUnclosed_55 (by decide) ?_
        exact ih x4_6 hw _ _ _ hP hD hS (lv_sub hl [1, 2, 3, 4, 0] rfl)
      · have hw := hw.2 c_5
        refine lv_iload_n hx hb dX8_firstUnclosed_44 rfl (lv_at hl 2 rfl) ?_
        refine lv_iload_n hx hb dX8_firstUnclosed_45 rfl (lv_at hl 3 rfl) ?_
        refine lv_iload hx hb dX8_firstUnclosed_46 (lv_at hl 4 rfl) ?_
        have hC9 : ([] : List Nat).map (fun i => (wd_X8_firstUnclosed G h_this h_values h_values_cells h_o1 h_o1_products h_o1_quotients h_o1_products_cells f_modulus a_values_cells f_o1_size f_o1_badColumn a_o1_products_cells)[i]?) = (wd_X9_tripleCode G).map some := rfl
        refine qn_callI (wd := (fun u : Unit => wd_X8_firstUnclosed G h_this h_values h_values_cells h_o1 h_o1_products h_o1_quotients h_o1_products_cells f_modulus a_values_cells f_o1_size f_o1_badColumn a_o1_products_cells)) [] (va_runSN (As := [.int x2, .int x3, .int x4]) (rest := []) ⟨hx, hb, hml, hown, hts⟩ (c_X9_tripleCode G _ x2 x3 x4 hw) ⟨va_cnB 3 hts ggX8_firstUnclosed_X9_tripleCode rfl rfl rfl (qn_m_Weights_55 hE.2.1) (hts (.initialized RX9) (by decide +kernel)) (by decide +kernel) ⟨Nat.le_of_ble_eq_true rfl, Nat.le_of_ble_eq_true rfl⟩, hts (.static yX9_tripleCode) (by decide +kernel), trivial⟩ (qn_preS hE hP hD [] hC9 (by decide +kernel)) rfl rfl hl.1 rfl (lv_room (Nat.le_of_ble_eq_true rfl)) dX8_firstUnclosed_48 ⟨Nat.le_of_ble_eq_true rfl, Nat.le_of_ble_eq_true rfl⟩) hP hD hS hA hC9 [none, none, none, none, none, none] (M := 6) rfl (by decide +kernel) (fun _ => rfl) (fun _ => rfl) (fun r_7 _ H locs hw hP hD hS => ?_)
        try dsimp only at hw
        have hP : va_P G.1 vwCl (wd_X8_firstUnclosed G h_this h_values h_values_cells h_o1 h_o1_products h_o1_quotients h_o1_products_cells f_modulus a_values_cells f_o1_size f_o1_badColumn a_o1_products_cells) H := hP
        have hD : va_D A (wd_X8_firstUnclosed G h_this h_values h_values_cells h_o1 h_o1_products h_o1_quotients h_o1_products_cells f_modulus a_values_cells f_o1_size f_o1_badColumn a_o1_products_cells) := hD
        exact W.iret (v := r_7) hx hb hr (fun t ht hW => ⟨⟨r_7, (), rfl, hw, by rw [ht]; exact hP, hD⟩, hS.F ht⟩) hS.2.2 dX8_firstUnclosed_51
set_option maxHeartbeats 4000000 in
set_option maxRecDepth 100000 in
theorem l_X8_firstUnclosed_12 {p : Program} {l : Launch} {e : Env} {s : State} {m : MethodId} {args : Array Value} {below : List Frame} {meth : Method} {c : Code} {G : qn_G} {A : Nat → Prop} {h_this h_values h_values_cells h_o1 h_o1_products h_o1_quotients h_o1_products_cells : Nat} {f_modulus : Int32} {a_values_cells : Nat → Int32} {f_o1_size : Int32} {f_o1_badColumn : Int32} {a_o1_products_cells : Nat → Int32} {x2 : Int32} {post : Int32 → Prop} {KL12 : Prop} (C0 : qn_C p m c cX8_firstUnclosed 5 s args wsX8_firstUnclosed RX8 meth (some .int)) (hE : qn_EV G s) (hA : ∀ q, s.heap.size ≤ q → A q) (hKc : KL12 → ∀ (H : Heap) (locs : List Loc) (ls : Array Slot), va_P G.1 vwCl (wd_X8_firstUnclosed G h_this h_values h_values_cells h_o1 h_o1_products h_o1_quotients h_o1_products_cells f_modulus a_values_cells f_o1_size f_o1_badColumn a_o1_products_cells) H → va_D A (wd_X8_firstUnclosed G h_this h_values h_values_cells h_o1 h_o1_products h_o1_quotients h_o1_products_cells f_modulus a_values_cells f_o1_size f_o1_badColumn a_o1_products_cells) → va_S A s.heap H locs → lv_has ls 5 [(0, .ref h_this), (1, .ref h_o1), (2, .int x2)] → W p l e (headSpec wsX8_firstUnclosed rm_X8_firstUnclosed).room s m args below meth c H locs 0 0 (MQ below (qn_QI G (fun (r : Int32) (u : Unit) => post r) (fun u : Unit => wd_X8_firstUnclosed G h_this h_values h_values_cells h_o1 h_o1_products h_o1_quotients h_o1_products_cells f_modulus a_values_cells f_o1_size f_o1_badColumn a_o1_products_cells) A) args s 0 0 A) (F0 m 64 ls [])) :
    ∀ (fu : Nat) (x3 : Int32), wp_X8_firstUnclosed_L12 post KL12 x2 f_modulus a_values_cells f_o1_size a_o1_products_cells fu x3 → ∀ (H : Heap) (locs : List Loc) (ls : Array Slot), va_P G.1 vwCl (wd_X8_firstUnclosed G h_this h_values h_values_cells h_o1 h_o1_products h_o1_quotients h_o1_products_cells f_modulus a_values_cells f_o1_size f_o1_badColumn a_o1_products_cells) H → va_D A (wd_X8_firstUnclosed G h_this h_values h_values_cells h_o1 h_o1_products h_o1_quotients h_o1_products_cells f_modulus a_values_cells f_o1_size f_o1_badColumn a_o1_products_cells) → va_S A s.heap H locs → lv_has ls 5 [(0, .ref h_this), (1, .ref h_o1), (2, .int x2), (3, .int x3)] → W p l e (headSpec wsX8_firstUnclosed rm_X8_firstUnclosed).room s m args below meth c H locs 0 0 (MQ below (qn_QI G (fun (r : Int32) (u : Unit) => post r) (fun u : Unit => wd_X8_firstUnclosed G h_this h_values h_values_cells h_o1 h_o1_products h_o1_quotients h_o1_products_cells f_modulus a_values_cells f_o1_size f_o1_badColumn a_o1_products_cells) A) args s 0 0 A) (F0 m 12 ls []) := by
  obtain ⟨hx, hb, hml, hown, hts, hr, hlocks⟩ := id C0
  intro fu
  induction fu with
  | zero => intro x3 hw; exact hw.elim
  | succ fu ih =>
    intro x3 hw H locs ls hP hD hS hl
    refine lv_iload_n hx hb dX8_firstUnclosed_12 rfl (lv_at hl 3 rfl) ?_
    refine lv_aload_n hx hb dX8_firstUnclosed_13 rfl (lv_at hl 1 rfl) ?_
    refine va_getN (D := G.1) (ci := 5) (v := .int f_o1_size) (C := RX5) (T := TX5) (N := 4) hx hb hts in_X8_firstUnclosed_X5 hown hE.1 hP 3 rfl rfl 0 (by decide) (va_Nw.use rfl (qn_f_Weights_29 hE.2.1)) (fun _ h9 => h9) rfl dX8_firstUnclosed_14 ?_
    refine lv_icmp_ge (tgt := 64) hx hb dX8_firstUnclosed_17 (by decide) (fun c_2 => ?_) (fun c_2 => ?_)
    · have hw := hw.1 c_2
      exact hKc  hw _ _ _ hP hD hS (lv_sub hl [0, 1, 2] rfl)
    · have hw := hw.2 c_2
      refine lv_iconst (v := 0) hx hb dX8_firstUnclosed_20 (by decide) ?_
      refine lv_istore (lv' := [(4, .int 0), (0, .ref h_this), (1, .ref h_o1), (2, .int x2), (3, .int x3)]) hx hb dX8_firstUnclosed_21 hl (by decide) rfl (fun ls hl => ?_)
      obtain ⟨fu_9, hw⟩ := hw
      refine l_X8_firstUnclosed_23 (post := post) C0 hE hA (fun  hw H locs ls hP hD hS hl => ?_) fu_9 0 hw _ _ _ hP hD hS (lv_sub hl [1, 2, 3, 4, 0] rfl)
      obtain ⟨x3_8, ex3_8⟩ : ∃ y : Int32, y = x3 + 1 := ⟨_, rfl⟩
      have hw := hw x3_8 ex3_8
      refine lv_iinc (v := x3_8) (lv' := [(3, .int x3_8), (0, .ref h_this), (1, .ref h_o1), (2, .int x2)]) hx hb dX8_firstUnclosed_58 hl (k := 3) rfl (by rw [ex3_8]; rfl) (by decide) rfl (fun ls hl => ?_)
      refine lv_goto (tgt := 12) hx hb dX8_firstUnclosed_61 (by decide) ?_
      exact ih x3_8 hw _ _ _ hP hD hS (lv_sub hl [1, 2, 3, 0] rfl)
set_option maxHeartbeats 4000000 in
set_option maxRecDepth 100000 in
theorem l_X8_firstUnclosed_2 {p : Program} {l : Launch} {e : Env} {s : State} {m : MethodId} {args : Array Value} {below : List Frame} {meth : Method} {c : Code} {G : qn_G} {A : Nat → Prop} {h_this h_values h_values_cells h_o1 h_o1_products h_o1_quotients h_o1_products_cells : Nat} {f_modulus : Int32} {a_values_cells : Nat → Int32} {f_o1_size : Int32} {f_o1_badColumn : Int32} {a_o1_products_cells : Nat → Int32} {post : Int32 → Prop} {KL2 : Prop} (C0 : qn_C p m c cX8_firstUnclosed 5 s args wsX8_firstUnclosed RX8 meth (some .int)) (hE : qn_EV G s) (hA : ∀ q, s.heap.size ≤ q → A q) (hKc : KL2 → ∀ (H : Heap) (locs : List Loc) (ls : Array Slot), va_P G.1 vwCl (wd_X8_firstUnclosed G h_this h_values h_values_cells h_o1 h_o1_products h_o1_quotients h_o1_products_cells f_modulus a_values_cells f_o1_size f_o1_badColumn a_o1_products_cells) H → va_D A (wd_X8_firstUnclosed G h_this h_values h_values_cells h_o1 h_o1_products h_o1_quotients h_o1_products_cells f_modulus a_values_cells f_o1_size f_o1_badColumn a_o1_products_cells) → va_S A s.heap H locs → lv_has ls 5 [] → W p l e (headSpec wsX8_firstUnclosed rm_X8_firstUnclosed).room s m args below meth c H locs 0 0 (MQ below (qn_QI G (fun (r : Int32) (u : Unit) => post r) (fun u : Unit => wd_X8_firstUnclosed G h_this h_values h_values_cells h_o1 h_o1_products h_o1_quotients h_o1_products_cells f_modulus a_values_cells f_o1_size f_o1_badColumn a_o1_products_cells) A) args s 0 0 A) (F0 m 70 ls [])) :
    ∀ (fu : Nat) (x2 : Int32), wp_X8_firstUnclosed_L2 post KL2 f_modulus a_values_cells f_o1_size a_o1_products_cells fu x2 → ∀ (H : Heap) (locs : List Loc) (ls : Array Slot), va_P G.1 vwCl (wd_X8_firstUnclosed G h_this h_values h_values_cells h_o1 h_o1_products h_o1_quotients h_o1_products_cells f_modulus a_values_cells f_o1_size f_o1_badColumn a_o1_products_cells) H → va_D A (wd_X8_firstUnclosed G h_this h_values h_values_cells h_o1 h_o1_products h_o1_quotients h_o1_products_cells f_modulus a_values_cells f_o1_size f_o1_badColumn a_o1_products_cells) → va_S A s.heap H locs → lv_has ls 5 [(0, .ref h_this), (1, .ref h_o1), (2, .int x2)] → W p l e (headSpec wsX8_firstUnclosed rm_X8_firstUnclosed).room s m args below meth c H locs 0 0 (MQ below (qn_QI G (fun (r : Int32) (u : Unit) => post r) (fun u : Unit => wd_X8_firstUnclosed G h_this h_values h_values_cells h_o1 h_o1_products h_o1_quotients h_o1_products_cells f_modulus a_values_cells f_o1_size f_o1_badColumn a_o1_products_cells) A) args s 0 0 A) (F0 m 2 ls []) := by
  obtain ⟨hx, hb, hml, hown, hts, hr, hlocks⟩ := id C0
  intro fu
  induction fu with
  | zero => intro x2 hw; exact hw.elim
  | succ fu ih =>
    intro x2 hw H locs ls hP hD hS hl
    refine lv_iload_n hx hb dX8_firstUnclosed_2 rfl (lv_at hl 2 rfl) ?_
    refine lv_aload_n hx hb dX8_firstUnclosed_3 rfl (lv_at hl 1 rfl) ?_
    refine va_getN (D := G.1) (ci := 5) (v := .int f_o1_size) (C := RX5) (T := TX5) (N := 4) hx hb hts in_X8_firstUnclosed_X5 hown hE.1 hP 3 rfl rfl 0 (by decide) (va_Nw.use rfl (qn_f_Weights_29 hE.2.1)) (fun _ h9 => h9) rfl dX8_firstUnclosed_4 ?_
    refine lv_icmp_ge (tgt := 70) hx hb dX8_firstUnclosed_7 (by decide) (fun c_1 => ?_) (fun c_1 => ?_)
    · have hw := hw.1 c_1
      exact hKc  hw _ _ _ hP hD hS (lv_sub hl [] rfl)
    · have hw := hw.2 c_1
      refine lv_iconst (v := 0) hx hb dX8_firstUnclosed_10 (by decide) ?_
      refine lv_istore_n (lv' := [(3, .int 0), (0, .ref h_this), (1, .ref h_o1), (2, .int x2)]) hx hb dX8_firstUnclosed_11 rfl hl (by decide) rfl (fun ls hl => ?_)
      obtain ⟨fu_11, hw⟩ := hw
      refine l_X8_firstUnclosed_12 (post := post) C0 hE hA (fun  hw H locs ls hP hD hS hl => ?_) fu_11 0 hw _ _ _ hP hD hS (lv_sub hl [1, 2, 3, 0] rfl)
      obtain ⟨x2_10, ex2_10⟩ : ∃ y : Int32, y = x2 + 1 := ⟨_, rfl⟩
      have hw := hw x2_10 ex2_10
      refine lv_iinc (v := x2_10) (lv' := [(2, .int x2_10), (0, .ref h_this), (1, .ref h_o1)]) hx hb dX8_firstUnclosed_64 hl (k := 2) rfl (by rw [ex2_10]; rfl) (by decide) rfl (fun ls hl => ?_)
      refine lv_goto (tgt := 2) hx hb dX8_firstUnclosed_67 (by decide) ?_
      exact ih x2_10 hw _ _ _ hP hD hS (lv_sub hl [1, 2, 0] rfl)
set_option maxHeartbeats 4000000 in
set_option maxRecDepth 100000 in
theorem c_X8_firstUnclosed {l : Launch} (G : qn_G) (sz : Nat) (h_this h_values h_values_cells h_o1 h_o1_products h_o1_quotients h_o1_products_cells : Nat) (f_modulus : Int32) (a_values_cells : Nat → Int32) (f_o1_size : Int32) (f_o1_badColumn : Int32) (a_o1_products_cells : Nat → Int32) {post : Int32 → Prop} (hw : wp_X8_firstUnclosed post f_modulus a_values_cells f_o1_size a_o1_products_cells) : Met l yX8_firstUnclosed wsX8_firstUnclosed rm_X8_firstUnclosed (qn_PC G [.ref h_this, .ref h_o1] sz (wd_X8_firstUnclosed G h_this h_values h_values_cells h_o1 h_o1_products h_o1_quotients h_o1_products_cells f_modulus a_values_cells f_o1_size f_o1_badColumn a_o1_products_cells)) (qn_QI G (fun (r : Int32) (u : Unit) => post r) (fun u : Unit => wd_X8_firstUnclosed G h_this h_values h_values_cells h_o1 h_o1_products h_o1_quotients h_o1_products_cells f_modulus a_values_cells f_o1_size f_o1_badColumn a_o1_products_cells) (va_A (wd_X8_firstUnclosed G h_this h_values h_values_cells h_o1 h_o1_products h_o1_quotients h_o1_products_cells f_modulus a_values_cells f_o1_size f_o1_badColumn a_o1_products_cells) sz)) 0 0 (va_A (wd_X8_firstUnclosed G h_this h_values h_values_cells h_o1 h_o1_products h_o1_quotients h_o1_products_cells f_modulus a_values_cells f_o1_size f_o1_badColumn a_o1_products_cells) sz) := by
  refine Met.ofW (cc := cX8_firstUnclosed) (maxL := 5) (ret := (some .int)) (by decide) rfl ?_
  intro p e s m args below meth c s₁ B hml hv
  obtain ⟨rfl, hsz, hP, hE, hD0⟩ := hv
  have C0 : qn_C p m c cX8_firstUnclosed 5 s _ wsX8_firstUnclosed RX8 meth (some .int) := qn_C0 B hml
  obtain ⟨hx, hb, -, hown, hts, hr, hlocks⟩ := id C0
  subst hsz
  have hD := hD0.self (sz := s.heap.size)
  generalize hAe : va_A (wd_X8_firstUnclosed G h_this h_values h_values_cells h_o1 h_o1_products h_o1_quotients h_o1_products_cells f_modulus a_values_cells f_o1_size f_o1_badColumn a_o1_products_cells) s.heap.size = A at hD ⊢
  have hA : ∀ q : Nat, s.heap.size ≤ q → A q := fun q h => by rw [← hAe]; exact Or.inr h
  clear hAe
  have hS : va_S A s.heap s.heap [] := va_S.rf
  have hl := lv_entry ([.ref h_this, .ref h_o1]) (n := 5) (Nat.le_of_ble_eq_true rfl)
  rw [lg_entry_eq]
  generalize (lg_sl ([.ref h_this, .ref h_o1]) ++ List.replicate (5 - (lg_sl ([.ref h_this, .ref h_o1])).length) Slot.unset).toArray = ls at hl ⊢
  have hl : lv_has ls 5 [(0, .ref h_this), (1, .ref h_o1)] := hl
  have hP : va_P G.1 vwCl (wd_X8_firstUnclosed G h_this h_values h_values_cells h_o1 h_o1_products h_o1_quotients h_o1_products_cells f_modulus a_values_cells f_o1_size f_o1_badColumn a_o1_products_cells) s.heap := hP
  refine lv_iconst (v := 0) hx hb dX8_firstUnclosed_0 (by decide) ?_
  refine lv_istore_n (lv' := [(2, .int 0), (0, .ref h_this), (1, .ref h_o1)]) hx hb dX8_firstUnclosed_1 rfl hl (by decide) rfl (fun ls hl => ?_)
  obtain ⟨fu_12, hw⟩ := hw
  refine l_X8_firstUnclosed_2 (post := post) C0 hE hA (fun  hw H locs ls hP hD hS hl => ?_) fu_12 0 hw _ _ _ hP hD hS (lv_sub hl [1, 2, 0] rfl)
  refine lv_bipush (v := (-4)) hx hb dX8_firstUnclosed_70 (by decide) ?_
  exact W.iret (v := (-4)) hx hb hr (fun t ht hW => ⟨⟨(-4), (), rfl, hw, by rw [ht]; exact hP, hD⟩, hS.F ht⟩) hS.2.2 dX8_firstUnclosed_72
