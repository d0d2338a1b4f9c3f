-- the reference's column()
theorem q_bit : ∀ M, M < 64 → ∀ v, v < 6 → ((nI M >>> (nI v &&& 31)) &&& 1) = nI (if M.testBit v then 1 else 0) := by decide +kernel
theorem q_bitT {M v : Nat} (hM : M < 64) (hv : v < 6) : ((nI M >>> (nI v &&& 31)) &&& 1) = 1 ↔ M.testBit v = true := by
  rw [q_bit M hM v hv]
  cases M.testBit v <;> decide
theorem s_column {post : Int32 → (Nat → Int32) → Prop} {n : Nat} {t : Nat → Nat → Nat} {N o : Nat → Int32} (hn : n ≤ 6) (ht : ∀ x y, x < n → y < n → t x y < n) (hN : N 84 = nI n) (hp : qn_tb n 0 t N) (h : ∀ b o', qn_IsBad n t b → ((∀ y, y < n → qn_inj n t y) → qn_qt n t o') → post b o') : wp_X10_column post N o := by
  refine q_loop (fun K f i s => wp_X10_column_L2 post K N f (nI i) s) (fun y s => ∀ z, z < y → qn_inj n t z ∧ ∀ x, x < n → s (6 * t x z + z) = nI x) n 0 o (by omega) (fun z hz => absurd hz (by omega)) (fun f s hI => ⟨pk_in 84 88 (by omega), ?_⟩) (fun f y s hy hI hk => ⟨pk_in 84 88 (by omega), ?_⟩)
  · rw [q84, hN]
    exact pk_le n n (fun _ => h _ _ (Or.inl ⟨rfl, fun z hz => (hI z hz).1⟩) (fun _ z hz _ x hx => (hI z hz).2 x hx)) (fun z => absurd z (by omega))
  · rw [q84, hN]
    refine pk_le n y (fun z => absurd z (by omega)) (fun _ => ?_)
    refine q_loop (σ := Int32 × (Nat → Int32)) (fun K f i s => wp_X10_column_L17 post K (nI y) N f s.1 (nI i) s.2)
      (fun i s => ∃ M, s.1 = nI M ∧ qn_mk i (fun a => t a y) M ∧ (∀ a b, a < i → b < i → t a y = t b y → a = b) ∧ (∀ a, a < i → s.2 (6 * t a y + y) = nI a) ∧ ∀ z, z < y → ∀ x, x < n → s.2 (6 * t x z + z) = nI x) n 0 (0, s) (by omega)
      ⟨0, rfl, q_mk0 _, fun a b ha => absurd ha (by omega), fun a ha => absurd ha (by omega), fun z hz x hx => (hI z hz).2 x hx⟩
      (fun f s hJ => ⟨pk_in 84 88 (by omega), ?_⟩) (fun f i s hi hJ hk2 => ⟨pk_in 84 88 (by omega), ?_⟩)
    · obtain ⟨M, e, hM, hd, ho, hz⟩ := hJ
      rw [q84, hN]
      refine pk_le n n (fun _ => nm_r (nI_1 y) (hk s.2 (lt_s (fun z h9 => ⟨(hI z h9).1, fun x hx => hz z h9 x hx⟩) ⟨fun a b ha hb e2 => hd a b ha hb e2, fun x hx => ho x hx⟩))) (fun z => absurd z (by omega))
    · obtain ⟨M, e, hM, hd, ho, hz⟩ := hJ
      have hti := ht i y hi hy
      have hM64 : M < 64 := q_mklt (m := 6) (fun a ha => Nat.lt_of_lt_of_le (ht a y (by omega) hy) hn) hM
      rw [q84, hN]
      refine pk_le n i (fun z => absurd z (by omega)) (fun _ => ⟨pk_in (6 * i + y) 88 (by omega) (hx := q_ix i y), nm_r (e' := nI (t i y)) (by rw [pk_cl (6 * i + y) (q_ix i y), q_tb0 hp hi hy]) ?_⟩)
      rw [e, q_bitT hM64 (by omega)]
      refine ⟨fun hb => nm_r (e' := nI (M ||| 2 ^ t i y)) (by rw [q_sh1 _ (by omega), fa_or]) ⟨pk_in (6 * t i y + y) 36 (by omega) (hx := q_ix _ _), nm_r (by rw [pk_cl (6 * t i y + y) (q_ix _ _)]) (nm_r (nI_1 i) (hk2 (nI (M ||| 2 ^ t i y), upd s.2 (6 * t i y + y) (nI i)) ⟨_, rfl, q_mks hM, ?_, ?_, ?_⟩))⟩, fun hb => ?_⟩
      · have hnew : ∀ a, a < i → t a y ≠ t i y := fun a ha e2 => hb ((hM _).mpr ⟨a, ha, e2⟩)
        intro a b ha hb2 e2
        by_cases ea : a = i
        · by_cases eb : b = i
          · rw [ea, eb]
          · exact absurd (by rw [← e2, ea]) (hnew b (by omega))
        · by_cases eb : b = i
          · exact absurd (by rw [e2, eb]) (hnew a (by omega))
          · exact hd a b (by omega) (by omega) e2
      · have hnew : ∀ a, a < i → t a y ≠ t i y := fun a ha e2 => hb ((hM _).mpr ⟨a, ha, e2⟩)
        intro a ha
        show upd s.2 (6 * t i y + y) (nI i) (6 * t a y + y) = nI a
        by_cases ea : a = i
        · rw [ea, pk_us]
        · have := hnew a (by omega)
          rw [pk_un (by omega)]
          exact ho a (by omega)
      · intro z h9 x hx
        show upd s.2 (6 * t i y + y) (nI i) (6 * t x z + z) = nI x
        have := ht x z hx (by omega)
        rw [pk_un (by omega)]
        exact hz z h9 x hx
      · obtain ⟨a, ha, e2⟩ := (hM _).mp hb
        have hni : ¬ qn_inj n t y := fun h9 => absurd (h9 a i (by omega) hi e2) (by omega)
        exact h _ _ (Or.inr ⟨y, hy, rfl, hni, fun z h9 => (hI z h9).1⟩) (fun h9 => absurd (h9 y hy) hni)
-- reads of the reference
theorem s_of {post : Int32 → Prop} {n : Nat} {t : Nat → Nat → Nat} {N : Nat → Int32} {x y : Nat} (hn : n ≤ 6) (hp : qn_tb n 0 t N) (hx : x < n) (hy : y < n) (h : post (nI (t x y))) : wp_X10_of post N (nI x) (nI y) :=
  ⟨pk_in (6 * x + y) 88 (by omega) (hx := q_ix x y), by rw [pk_cl (6 * x + y) (q_ix x y), q_tb0 hp hx hy]; exact h⟩
theorem q_iw (x y : Nat) : ((36 : Int32) + 6 * nI x) + nI y = nI (36 + (6 * x + y)) := by
  rw [show (36 : Int32) = nI 36 from rfl, show (6 : Int32) = nI 6 from rfl, pk_mul, nI_add, nI_add, Nat.add_assoc]
theorem s_wOf {post : Int32 → Prop} {n : Nat} {w : Nat → Nat → Nat} {N : Nat → Int32} {x y : Nat} (hn : n ≤ 6) (hp : qn_tb n 36 w N) (hx : x < n) (hy : y < n) (h : post (nI (w x y))) : wp_X10_weightOf post N (nI x) (nI y) :=
  ⟨pk_in (36 + (6 * x + y)) 88 (by omega) (hx := q_iw x y), by rw [pk_cl (36 + (6 * x + y)) (q_iw x y), hp x y hx hy]; exact h⟩
theorem s_inT {post : Int32 → Prop} {a b c : Nat} (h1 : b ≤ a) (h2 : a ≤ c) (hc : c < 2 ^ 31) (h : post 1) : wp_X10_in post (nI a) (nI b) (nI c) :=
  pk_lt a b (fun z => absurd z (by omega)) (fun _ => pk_lt c a (fun z => absurd z (by omega)) (fun _ => h))
theorem s_inF {post : Int32 → Prop} {x lo hi : Int32} (hx : x < lo ∨ hi < x) (h : post 0) : wp_X10_in post x lo hi := by
  rcases hx with q | q
  · exact ⟨fun _ => h, fun z => absurd q z⟩
  · exact ⟨fun _ => h, fun _ => ⟨fun _ => h, fun z => absurd q z⟩⟩
/-- an int is below, above, or one of the numbers from a to b -/
theorem q_tri (x : Int32) {a b : Nat} (hab : a ≤ b) (hb : b < 2 ^ 30) : x < nI a ∨ nI b < x ∨ ∃ k, a ≤ k ∧ k ≤ b ∧ x = nI k := by
  by_cases h1 : x < nI a
  · exact Or.inl h1
  · by_cases h2 : nI b < x
    · exact Or.inr (Or.inl h2)
    · refine Or.inr (Or.inr ?_)
      rw [fa_lt, nI_toInt (by omega)] at h1
      rw [fa_lt, nI_toInt (by omega)] at h2
      refine ⟨x.toInt.toNat, by omega, by omega, ?_⟩
      rw [fa_eq, nI_toInt (by omega)]
      omega
theorem q_Xd {n s k m : Nat} {t w : Nat → Nat → Nat} {g : Nat → Int32} {a0 a1 : Int32} {a2 a3 : Nat → Int32} {a4 a5 : Int32} {a6 : Nat → Int32} {a7 : Int32} {a8 : Nat → Int32} (h : qn_X n s k m t w g (a0, a1, a2, a3, a4, a5, a6, a7, a8)) : a0 = nI n ∧ qn_IsBad n t a1 ∧ qn_tb n 0 t a2 ∧ qn_qt n t a3 ∧ a4 = nI s ∧ a5 = nI k ∧ (∀ j, j < k → a6 j = g j) ∧ a7 = nI m ∧ qn_tb n 0 w a8 := h
