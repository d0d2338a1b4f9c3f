theorem q_ne {x y : Int32} {A B : Prop} (a b : Nat) (f : a = b → A) (g : a ≠ b → B) (hx : x = nI a := by rfl) (hy : y = nI b := by rfl) (ha : a < 2 ^ 31 := by omega) (hb : b < 2 ^ 31 := by omega) : (¬ x = y → B) ∧ (x = y → A) := ⟨(pk_eq a b f g hx hy ha hb).2, (pk_eq a b f g hx hy ha hb).1⟩
-- a coboundary
def qn_cb (m : Nat) (t : Nat → Nat → Nat) (x a : Nat) (w : Nat → Nat → Nat) (u v : Nat) : Nat := (w u v + (if u = x then a else 0) + (if t u v = x then m - a else 0)) % m
def qn_pg (w w' : Nat → Nat → Nat) (u j : Nat) : Nat → Nat → Nat := fun a b => if a < u ∨ (a = u ∧ b < j) then w' a b else w a b
theorem q_pg0 {n o : Nat} {w w' : Nat → Nat → Nat} {f : Nat → Int32} (h : qn_tb n o w f) : qn_tb n o (qn_pg w w' 0 0) f := fun a b ha hb => by
  unfold qn_pg
  rw [if_neg (by omega)]
  exact h a b ha hb
theorem q_pgn {n o : Nat} {w w' : Nat → Nat → Nat} {f : Nat → Int32} (h : qn_tb n o (qn_pg w w' n 0) f) : qn_tb n o w' f := fun a b ha hb => by
  have h1 := h a b ha hb
  unfold qn_pg at h1
  rwa [if_pos (by omega)] at h1
theorem q_pgr {n o u : Nat} {w w' : Nat → Nat → Nat} {f : Nat → Int32} (h : qn_tb n o (qn_pg w w' u n) f) : qn_tb n o (qn_pg w w' (u + 1) 0) f := fun a b ha hb => by
  have h1 := h a b ha hb
  unfold qn_pg at h1 ⊢
  by_cases e : a < u ∨ (a = u ∧ b < n)
  · rw [if_pos e] at h1
    rw [if_pos (by omega)]
    exact h1
  · rw [if_neg e] at h1
    rw [if_neg (by omega)]
    exact h1
theorem q_pgs {n o u j : Nat} {w w' : Nat → Nat → Nat} {f : Nat → Int32} (hn : n ≤ 6) (hu : u < n) (hj : j < n) (h : qn_tb n o (qn_pg w w' u j) f) : qn_tb n o (qn_pg w w' u (j + 1)) (upd f (o + (6 * u + j)) (nI (w' u j))) := fun a b ha hb => by
  have h1 := h a b ha hb
  unfold qn_pg at h1 ⊢
  by_cases e : a = u ∧ b = j
  · rw [e.1, e.2, pk_us, if_pos (by omega)]
  · rw [pk_un (by omega), h1]
    by_cases e2 : a < u ∨ (a = u ∧ b < j)
    · rw [if_pos e2, if_pos (by omega)]
    · rw [if_neg e2, if_neg (by omega)]
theorem q_pgh {u j : Nat} {w w' : Nat → Nat → Nat} : qn_pg w w' u j u j = w u j := if_neg (by omega)
def qn_chr (w w' : Nat → Nat → Nat) (u : Nat) : Nat → Nat
  | 0 => 0
  | v + 1 => qn_chr w w' u v + (if w' u v = w u v then 0 else 1)
def qn_chs (w w' : Nat → Nat → Nat) (n : Nat) : Nat → Nat
  | 0 => 0
  | u + 1 => qn_chs w w' n u + qn_chr w w' u n
theorem s_J84 {BL : Int32 → Int32 → (Nat → Int32) → Prop} {C u v w0 g m : Nat} {cells : Nat → Int32} (hu : u < 6) (hv : v < 6) (hm : m ≤ 12) (hw0 : w0 < m) (hg : g < m) (h : BL (nI (C + (if g = w0 then 0 else 1))) (nI (v + 1)) (upd cells (6 * u + v) (nI g))) : wp_X8_addBoundary_J84 BL (nI C) (nI u) (nI v) (nI w0) (nI g) cells :=
  s_put hu hv (pk_eq g w0 (fun e => nm_r (nI_1 v) (by rw [if_pos e] at h; exact h)) (fun e => nm_r (nI_1 C) (nm_r (nI_1 v) (by rw [if_neg e] at h; exact h))) (ha := by omega) (hb := by omega))
theorem s_J58 {BL : Int32 → Int32 → (Nat → Int32) → Prop} {C u v w0 g m n x a : Nat} {t : Nat → Nat → Nat} {p cells : Nat → Int32} (hn : n ≤ 6) (ht : ∀ x y, x < n → y < n → t x y < n) (hp : qn_tb n 0 t p) (hu : u < n) (hv : v < n) (hx : x < n) (hm : m ≤ 12) (ha : a < m) (hw0 : w0 < m) (hg : g < m) (h : BL (nI (C + (if (if t u v = x then (g + (m - a)) % m else g) = w0 then 0 else 1))) (nI (v + 1)) (upd cells (6 * u + v) (nI (if t u v = x then (g + (m - a)) % m else g)))) : wp_X8_addBoundary_J58 BL (nI x) (nI a) (nI C) (nI u) (nI v) (nI w0) (nI g) (nI m) cells p := by
  have b := ht u v hu hv
  have b2 := Nat.mod_lt (g + (m - a)) (show m > 0 by omega)
  refine s_product hn hp hu hv (q_ne (t u v) x (fun e => s_minus hm hg ha (s_J84 (by omega) (by omega) hm hw0 b2 ?_)) (fun e => s_J84 (by omega) (by omega) hm hw0 hg ?_) (ha := by omega) (hb := by omega))
  · rw [if_pos e] at h; exact h
  · rw [if_neg e] at h; exact h
theorem q_cb1 {m x a u v : Nat} {t w : Nat → Nat → Nat} (e : u = x) : (if t u v = x then ((w u v + a) % m + (m - a)) % m else (w u v + a) % m) = qn_cb m t x a w u v := by
  unfold qn_cb
  rw [if_pos e]
  by_cases e2 : t u v = x
  · rw [if_pos e2, if_pos e2, Nat.mod_add_mod]
  · rw [if_neg e2, if_neg e2, Nat.add_zero]
theorem q_cb0 {m x a u v : Nat} {t w : Nat → Nat → Nat} (hw : w u v < m) (e : ¬ u = x) : (if t u v = x then (w u v + (m - a)) % m else w u v) = qn_cb m t x a w u v := by
  unfold qn_cb
  rw [if_neg e, Nat.add_zero]
  by_cases e2 : t u v = x
  · rw [if_pos e2, if_pos e2]
  · rw [if_neg e2, if_neg e2, Nat.add_zero, Nat.mod_eq_of_lt hw]
theorem s_addB {post : Int32 → (Nat → Int32) → Prop} {n m x a : Nat} {t w : Nat → Nat → Nat} {p q : Nat → Int32} (hn : n ≤ 6) (hm : m ≤ 12) (ht : ∀ x y, x < n → y < n → t x y < n) (hw : ∀ x y, x < n → y < n → w x y < m) (hp : qn_tb n 0 t p) (hq : qn_tb n 0 w q) (hx : x < n) (ha : a < m) (h : ∀ q', qn_tb n 0 (qn_cb m t x a w) q' → post (nI (qn_chs w (qn_cb m t x a w) n n)) q') : wp_X8_addBoundary post (nI m) q (nI n) p (nI x) (nI a) := by
  refine pk_loop (fun f i s => wp_X8_addBoundary_L6 (fun c s => post c s) (nI x) (nI a) (nI m) (nI n) p f (nI (qn_chs w (qn_cb m t x a w) n i)) (nI i) s) (fun i s => qn_tb n 0 (qn_pg w (qn_cb m t x a w) i 0) s) n 0 q (by omega) (q_pg0 hq) (fun f s hI => pk_le n n (fun _ => h s (q_pgn hI)) (fun z => absurd z (by omega))) (fun f u s hu hI hk => pk_le n u (fun z => absurd z (by omega)) (fun _ => ?_))
  refine q_loop (fun K f i s => wp_X8_addBoundary_L18 K (nI x) (nI a) (nI u) (nI m) (nI n) p f (nI (qn_chs w (qn_cb m t x a w) n u + qn_chr w (qn_cb m t x a w) u i)) (nI i) s) (fun i s => qn_tb n 0 (qn_pg w (qn_cb m t x a w) u i) s) n 0 s (by omega) hI (fun f s hJ => pk_le n n (fun _ => nm_r (nI_1 u) (hk s (q_pgr hJ))) (fun z => absurd z (by omega))) (fun f v s hv hJ hk2 => pk_le n v (fun z => absurd z (by omega)) (fun _ => s_get (by omega) (by omega) ?_))
  have h9 := q_pgs hn hu hv hJ
  rw [Nat.zero_add] at h9
  have hk3 := hk2 _ h9
  have hwu := hw u v hu hv
  rw [q_tb0 hJ hu hv, q_pgh]
  refine q_ne u x (fun e => s_plus hm hwu ha (s_J58 hn ht hp hu hv hx hm ha hwu (Nat.mod_lt _ (by omega)) ?_)) (fun e => s_J58 hn ht hp hu hv hx hm ha hwu hwu ?_) (ha := by omega) (hb := by omega)
  · rw [q_cb1 e, Nat.add_assoc]
    exact hk3
  · rw [q_cb0 hwu e, Nat.add_assoc]
    exact hk3
-- the reference
theorem s_mJ112 {BL : Int32 → Int32 → (Nat → Int32) → Prop} {C u v w0 S m : Nat} {z0 z1 : Int32} {N : Nat → Int32} (hu : u < 6) (hv : v < 6) (h87 : N 87 = nI m) (hm1 : 2 ≤ m) (hm : m ≤ 12) (hw0 : w0 < m) (hS : S < 2 ^ 30) (hz : z0 + z1 = nI S) (h : BL (nI (C + (if S % m = w0 then 0 else 1))) (nI (v + 1)) (upd N (36 + (6 * u + v)) (nI (S % m)))) : wp_X10_addCoboundary_J112 BL (nI C) (nI u) (nI v) (nI w0) z0 z1 N := by
  refine ⟨pk_in 87 88 (by omega), ?_⟩
  rw [q87, h87, hz]
  refine ⟨nI_ne0 (by omega) (by omega), nm_r (pk_rem (by omega) (by omega) (by omega)) ⟨pk_in (36 + (6 * u + v)) 88 (by omega) (hx := q_iw u v), nm_r (by rw [pk_cl (36 + (6 * u + v)) (q_iw u v)]) ?_⟩⟩
  have hlt := Nat.mod_lt S (show m > 0 by omega)
  exact q_ne (S % m) w0 (fun e => nm_r (nI_add C 0) (nm_r (nI_1 v) (by rw [if_pos e] at h; exact h))) (fun e => nm_r (nI_1 C) (nm_r (nI_1 v) (by rw [if_neg e] at h; exact h))) (ha := by omega) (hb := by omega)
theorem s_mJ86 {BL : Int32 → Int32 → (Nat → Int32) → Prop} {C u v w0 S m n x a : Nat} {t : Nat → Nat → Nat} {z0 z1 : Int32} {N : Nat → Int32} (hn : n ≤ 6) (ht : ∀ x y, x < n → y < n → t x y < n) (hp : qn_tb n 0 t N) (hu : u < n) (hv : v < n) (hx : x < n) (h87 : N 87 = nI m) (hm1 : 2 ≤ m) (hm : m ≤ 12) (ha : a < m) (hw0 : w0 < m) (hS : S < 100) (hz : z0 + z1 = nI S) (h : BL (nI (C + (if (S + (if t u v = x then m - a else 0)) % m = w0 then 0 else 1))) (nI (v + 1)) (upd N (36 + (6 * u + v)) (nI ((S + (if t u v = x then m - a else 0)) % m)))) : wp_X10_addCoboundary_J86 BL (nI x) (nI a) (nI C) (nI u) (nI v) (nI w0) z0 z1 N := by
  have b := ht u v hu hv
  refine s_of hn hp hu hv (q_ne (t u v) x (fun e => ⟨pk_in 87 88 (by omega), s_mJ112 (S := S + (m - a)) (by omega) (by omega) h87 hm1 hm hw0 (by omega) (by rw [hz, q87, h87, pk_sub (by omega), nI_add]) ?_⟩) (fun e => s_mJ112 (S := S + 0) (by omega) (by omega) h87 hm1 hm hw0 (by omega) (by rw [hz]; exact nI_add S 0) ?_) (ha := by omega) (hb := by omega))
  · rw [if_pos e] at h; exact h
  · rw [if_neg e] at h; exact h
theorem s_mCob {K : Int32 → (Nat → Int32) → Prop} {n m x a : Nat} {t w : Nat → Nat → Nat} {N : Nat → Int32} (hn : n ≤ 6) (hm1 : 2 ≤ m) (hm : m ≤ 12) (ht : ∀ x y, x < n → y < n → t x y < n) (hw : ∀ x y, x < n → y < n → w x y < m) (h84 : N 84 = nI n) (h87 : N 87 = nI m) (hp : qn_tb n 0 t N) (hq : qn_tb n 36 w N) (hx : x < n) (ha : a < m) (h : ∀ N', qn_tb n 36 (qn_cb m t x a w) N' → (∀ j, (j < 36 ∨ 72 ≤ j) → N' j = N j) → K (nI (qn_chs w (qn_cb m t x a w) n n)) N') : ∃ f, wp_X10_addCoboundary_L36 K (nI x) (nI a) f 0 0 N := by
  refine pk_loop (fun f i s => wp_X10_addCoboundary_L36 K (nI x) (nI a) f (nI (qn_chs w (qn_cb m t x a w) n i)) (nI i) s) (fun i s => qn_tb n 36 (qn_pg w (qn_cb m t x a w) i 0) s ∧ ∀ j, (j < 36 ∨ 72 ≤ j) → s j = N j) n 0 N (by omega) ⟨q_pg0 hq, fun _ _ => rfl⟩ (fun f s hI => ⟨pk_in 84 88 (by omega), ?_⟩) (fun f u s hu hI hk => ⟨pk_in 84 88 (by omega), ?_⟩)
  · rw [q84, hI.2 84 (by omega), h84]
    exact pk_le n n (fun _ => h s (q_pgn hI.1) hI.2) (fun z => absurd z (by omega))
  · rw [q84, hI.2 84 (by omega), h84]
    refine pk_le n u (fun z => absurd z (by omega)) (fun _ => ?_)
    refine q_loop (fun K f i s => wp_X10_addCoboundary_L51 K (nI x) (nI a) (nI u) f (nI (qn_chs w (qn_cb m t x a w) n u + qn_chr w (qn_cb m t x a w) u i)) (nI i) s) (fun i s => qn_tb n 36 (qn_pg w (qn_cb m t x a w) u i) s ∧ ∀ j, (j < 36 ∨ 72 ≤ j) → s j = N j) n 0 s (by omega) hI (fun f s hJ => ⟨pk_in 84 88 (by omega), ?_⟩) (fun f v s hv hJ hk2 => ⟨pk_in 84 88 (by omega), ?_⟩)
    · rw [q84, hJ.2 84 (by omega), h84]
      exact pk_le n n (fun _ => nm_r (nI_1 u) (hk s ⟨q_pgr hJ.1, hJ.2⟩)) (fun z => absurd z (by omega))
    · rw [q84, hJ.2 84 (by omega), h84]
      have hp' : qn_tb n 0 t s := fun x y hx hy => (hJ.2 _ (by omega)).trans (hp x y hx hy)
      have h87' : s 87 = nI m := (hJ.2 87 (by omega)).trans h87
      have hk3 := hk2 _ ⟨q_pgs hn hu hv hJ.1, fun j hj => by rw [pk_un (by omega)]; exact hJ.2 j hj⟩
      have hwu := hw u v hu hv
      refine pk_le n v (fun z => absurd z (by omega)) (fun _ => s_wOf hn hJ.1 hu hv ?_)
      rw [q_pgh]
      refine q_ne u x (fun e => s_mJ86 (S := w u v + a) hn ht hp' hu hv hx h87' hm1 hm ha hwu (by omega) (nI_add _ _) ?_) (fun e => s_mJ86 (S := w u v + 0) hn ht hp' hu hv hx h87' hm1 hm ha hwu (by omega) (nI_add _ 0) ?_) (ha := by omega) (hb := by omega)
      · have e1 : (w u v + a + (if t u v = x then m - a else 0)) % m = qn_cb m t x a w u v := by
          unfold qn_cb
          rw [if_pos e]
        rw [e1, Nat.add_assoc]
        exact hk3
      · have e1 : (w u v + 0 + (if t u v = x then m - a else 0)) % m = qn_cb m t x a w u v := by
          unfold qn_cb
          rw [if_neg e]
        rw [e1, Nat.add_assoc]
        exact hk3
-- a new modulus
theorem s_zeroW {K : (Nat → Int32) → Prop} {N : Nat → Int32} (h : ∀ N', (∀ j, 36 ≤ j → j < 72 → N' j = 0) → (∀ j, (j < 36 ∨ 72 ≤ j) → N' j = N j) → K N') : ∃ f, wp_X10_setModulus_L34 K f 0 N := by
  refine pk_loop (fun f i s => wp_X10_setModulus_L34 K f (nI i) s) (fun i s => (∀ j, 36 ≤ j → j < 36 + i → s j = 0) ∧ ∀ j, (j < 36 ∨ 72 ≤ j) → s j = N j) 36 0 N (by omega) ⟨fun j h1 h2 => absurd h2 (by omega), fun _ _ => rfl⟩ (fun f s hI => pk_le 36 36 (fun _ => h s hI.1 hI.2) (fun z => absurd z (by omega))) (fun f i s hi hI hk => ?_)
  have e : (36 : Int32) + nI i = nI (36 + i) := nI_add 36 i
  refine pk_le 36 i (fun z => absurd z (by omega)) (fun _ => ⟨pk_in (36 + i) 88 (by omega) (hx := e), nm_r (by rw [pk_cl (36 + i) e]) (nm_r (nI_1 i) (hk _ ⟨fun j h1 h2 => ?_, fun j hj => ?_⟩))⟩)
  · by_cases e2 : j = 36 + i
    · rw [e2, pk_us]
    · rw [pk_un e2]; exact hI.1 j h1 (by omega)
  · rw [pk_un (by omega)]; exact hI.2 j hj
-- the start
theorem q_i0 : ∀ x, x < 3 → ∀ y, y < 3 → (((2 * nI y) - nI x) + 3) - (((2 * nI y) - nI x) + 3) / 3 * 3 = nI (qn_Dih 3 x y) := by decide +kernel
theorem q_dih3 : ∀ x, x < 3 → ∀ y, y < 3 → qn_Dih 3 x y < 3 := by decide +kernel
theorem s_mInit {post : (Nat → Int32) → Prop} (h : ∀ N, N 84 = nI 3 → N 85 = nI 2 → N 86 = nI 3 → N 87 = nI 3 → (∀ j, j < 3 → N (72 + j) = 1) → qn_tb 3 0 (qn_Dih 3) N → (∀ j, 36 ≤ j → j < 72 → N j = 0) → post N) : wp_X10_init post := by
  refine ⟨pk_in 84 88 (by omega), fun N1 e1 => ⟨pk_in 85 88 (by omega), fun N2 e2 => ⟨pk_in 86 88 (by omega), fun N3 e3 => ⟨pk_in 87 88 (by omega), fun N4 e4 => ?_⟩⟩⟩⟩
  rw [q84] at e1
  rw [q85] at e2
  rw [q86] at e3
  rw [q87] at e4
  have v84 : N4 84 = nI 3 := by rw [e4, pk_un (by omega), e3, pk_un (by omega), e2, pk_un (by omega), e1, pk_us]; rfl
  have v85 : N4 85 = nI 2 := by rw [e4, pk_un (by omega), e3, pk_un (by omega), e2, pk_us]; rfl
  have v86 : N4 86 = nI 3 := by rw [e4, pk_un (by omega), e3, pk_us]; rfl
  have v87 : N4 87 = nI 3 := by rw [e4, pk_us]; rfl
  have v0 : ∀ j, j < 84 → N4 j = 0 := fun j hj => by rw [e4, pk_un (by omega), e3, pk_un (by omega), e2, pk_un (by omega), e1, pk_un (by omega)]
  refine q_loop (fun K f i s => wp_X10_init_L112 K f (nI i) s) (fun i s => (∀ j, j < i → s (72 + j) = 1) ∧ ∀ j, (j < 72 ∨ 84 ≤ j) → s j = N4 j) 3 0 N4 (by omega) ⟨fun j hj => absurd hj (by omega), fun _ _ => rfl⟩ (fun f s hI => pk_le 3 3 (fun _ => ?_) (fun z => absurd z (by omega))) (fun f i s hi hI hk => ?_)
  · refine q_loop (fun K f i s => wp_X10_init_L135 K f (nI i) s) (fun i s' => (∀ x y, x < i → y < 3 → s' (6 * x + y) = nI (qn_Dih 3 x y)) ∧ ∀ j, 36 ≤ j → s' j = s j) 3 0 s (by omega) ⟨fun x y hx => absurd hx (by omega), fun _ _ => rfl⟩ (fun f s' hJ => pk_le 3 3 (fun _ => ?_) (fun z => absurd z (by omega))) (fun f i s' hi hJ hk => pk_le 3 i (fun z => absurd z (by omega)) (fun _ => ?_))
    · have hh : ∀ j, 36 ≤ j → (j < 72 ∨ 84 ≤ j) → s' j = N4 j := fun j h1 h2 => (hJ.2 j h1).trans (hI.2 j h2)
      exact h s' ((hh 84 (by omega) (by omega)).trans v84) ((hh 85 (by omega) (by omega)).trans v85) ((hh 86 (by omega) (by omega)).trans v86) ((hh 87 (by omega) (by omega)).trans v87) (fun j hj => (hJ.2 _ (by omega)).trans (hI.1 j hj)) (q_tbI (fun x y hx hy => hJ.1 x y hx hy)) (fun j h1 h2 => (hh j h1 (by omega)).trans (v0 j (by omega)))
    · refine q_loop (fun K f j s => wp_X10_init_L142 K (nI i) f (nI j) s) (fun j s3 => (∀ x y, x < i → y < 3 → s3 (6 * x + y) = nI (qn_Dih 3 x y)) ∧ (∀ y, y < j → s3 (6 * i + y) = nI (qn_Dih 3 i y)) ∧ ∀ j, 36 ≤ j → s3 j = s j) 3 0 s' (by omega) ⟨hJ.1, fun y hy => absurd hy (by omega), hJ.2⟩
        (fun f s3 hL => pk_le 3 3 (fun _ => nm_r (nI_1 i) (hk s3 ⟨fun x y hx hy => ?_, hL.2.2⟩)) (fun z => absurd z (by omega))) (fun f j s3 hj hL hk2 => pk_le 3 j (fun z => absurd z (by omega)) (fun _ => nm_r (q_i0 i hi j hj) ⟨pk_in (6 * i + j) 88 (by omega) (hx := q_ix i j), nm_r (by rw [pk_cl (6 * i + j) (q_ix i j)]) (nm_r (nI_1 j) (hk2 _ ⟨fun x y hx hy => ?_, fun y hy => ?_, fun l hl => ?_⟩))⟩))
      · by_cases e : x = i
        · rw [e]; exact hL.2.1 y hy
        · exact hL.1 x y (by omega) hy
      · rw [pk_un (by omega)]; exact hL.1 x y hx hy
      · by_cases e : y = j
        · rw [e, pk_us]
        · rw [pk_un (by omega)]; exact hL.2.1 y (by omega)
      · rw [pk_un (by omega)]; exact hL.2.2 l hl
  · have e : (72 : Int32) + nI i = nI (72 + i) := nI_add 72 i
    refine pk_le 3 i (fun z => absurd z (by omega)) (fun _ => ⟨pk_in (72 + i) 88 (by omega) (hx := e), nm_r (by rw [pk_cl (72 + i) e]) (nm_r (nI_1 i) (hk _ ⟨fun j hj => ?_, fun j hj => ?_⟩))⟩)
    · by_cases e2 : j = i
      · rw [e2, pk_us]
      · rw [pk_un (by omega)]; exact hI.1 j (by omega)
    · rw [pk_un (by omega)]; exact hI.2 j hj
