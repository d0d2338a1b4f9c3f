-- orbits: masks
def qn_nbr (v : Bool) (n : Nat) (t : Nat → Nat → Nat) (u : Nat) : Nat → Nat
  | 0 => 0
  | y + 1 => qn_nbr v n t u y ||| (2 ^ t u y ||| (if v then 2 ^ qn_dv n t u y else 0))
def qn_ry (v : Bool) (n : Nat) (t : Nat → Nat → Nat) (H : Nat) : Nat → Nat
  | 0 => 0
  | u + 1 => if H.testBit u then qn_ry v n t H u ||| qn_nbr v n t u n else qn_ry v n t H u
def qn_F (v : Bool) (n : Nat) (t : Nat → Nat → Nat) (H : Nat) : Nat := H ||| qn_ry v n t H n
def qn_It (v : Bool) (n : Nat) (t : Nat → Nat → Nat) (x : Nat) : Nat → Nat
  | 0 => 2 ^ x
  | k + 1 => qn_F v n t (qn_It v n t x k)
/-- the table is one of n elements, and, where v, its columns are bijections -/
def qn_tk (v : Bool) (n : Nat) (t : Nat → Nat → Nat) : Prop := n ≤ 6 ∧ (∀ x y, x < n → y < n → t x y < n) ∧ (v = true → ∀ y, y < n → qn_inj n t y)
theorem q_p2 {a n : Nat} (h : a < n) : 2 ^ a < 2 ^ n := Nat.pow_lt_pow_right (by decide) h
theorem q_nbl {v : Bool} {n : Nat} {t : Nat → Nat → Nat} {u : Nat} (hk : qn_tk v n t) (hu : u < n) : ∀ y, y ≤ n → qn_nbr v n t u y < 2 ^ n
  | 0, _ => Nat.two_pow_pos n
  | y + 1, hy => by
    have h1 := q_nbl hk hu y (by omega)
    have h2 := q_p2 (hk.2.1 u y hu (by omega))
    refine Nat.or_lt_two_pow h1 (Nat.or_lt_two_pow h2 ?_)
    cases hv : v with
    | false => exact Nat.two_pow_pos n
    | true => exact q_p2 (q_dv hk.2.1 (hk.2.2 hv y (by omega)) hu (by omega)).1
theorem q_ryl {v : Bool} {n : Nat} {t : Nat → Nat → Nat} {H : Nat} (hk : qn_tk v n t) : ∀ u, u ≤ n → qn_ry v n t H u < 2 ^ n
  | 0, _ => Nat.two_pow_pos n
  | u + 1, hu => by
    have h1 := q_ryl (H := H) hk u (by omega)
    unfold qn_ry
    split
    · exact Nat.or_lt_two_pow h1 (q_nbl hk (by omega) n (Nat.le_refl n))
    · exact h1
theorem q_Itl {v : Bool} {n : Nat} {t : Nat → Nat → Nat} {x : Nat} (hk : qn_tk v n t) (hx : x < n) : ∀ k, qn_It v n t x k < 2 ^ n
  | 0 => q_p2 hx
  | k + 1 => Nat.or_lt_two_pow (q_Itl hk hx k) (q_ryl hk n (Nat.le_refl n))
theorem q_64 {n a : Nat} (hn : n ≤ 6) (h : a < 2 ^ n) : a < 64 := Nat.lt_of_lt_of_le h (Nat.pow_le_pow_right (n := 2) (by decide) hn)
theorem q_ct64 : ∀ A, A < 64 → ∀ X, X < 64 → A ||| X ≠ A → fb_ct A.testBit 6 < fb_ct (A ||| X).testBit 6 := by decide +kernel
theorem q_ctn : ∀ n, n < 7 → ∀ M, M < 2 ^ n → fb_ct M.testBit 6 ≤ n := by decide +kernel
theorem q_ctp : ∀ x, x < 6 → 1 ≤ fb_ct (2 ^ x).testBit 6 := by decide +kernel
-- the class
theorem s_neigh {post : Int32 → Prop} {v : Bool} {n u : Nat} {t : Nat → Nat → Nat} {b : Int32} {p q : Nat → Int32} (hk : qn_tk v n t) (hp : qn_tb n 0 t p) (hq : qn_qt n t q) (hb : v = true ↔ b = (-4)) (hu : u < n) (h : post (nI (qn_nbr v n t u n))) : wp_X5_neighbours post (nI n) b p q (nI u) := by
  obtain ⟨hn, ht, hi⟩ := id hk
  refine pk_loop (σ := Unit) (fun f i _ => wp_X5_neighbours_L4 (fun x => post x) (nI u) (nI n) b p q f (nI (qn_nbr v n t u i)) (nI i)) (fun _ _ => True) n 0 () (by omega) trivial (fun f _ _ => pk_le n n (fun _ => h) (fun z => absurd z (by omega))) (fun f y _ hy _ hk2 => pk_le n y (fun z => absurd z (by omega)) (fun _ => s_product hn hp hu hy ?_))
  have hty := ht u y hu hy
  refine nm_r (e' := nI (qn_nbr v n t u y ||| 2 ^ t u y)) (by rw [q_sh1 _ (by omega), fa_or]) ?_
  cases hv : v with
  | false =>
    have hne : b ≠ (-4) := fun e => absurd ((hb.mpr e).symm.trans hv) (by decide)
    refine s_invF hne ⟨fun _ => nm_r (nI_1 y) ?_, fun z => absurd rfl z⟩
    have h9 := hk2 () trivial
    rw [hv] at h9
    have e : qn_nbr false n t u (y + 1) = qn_nbr false n t u y ||| 2 ^ t u y := by
      show qn_nbr false n t u y ||| (2 ^ t u y ||| 0) = _
      rw [Nat.or_zero]
    rw [e] at h9
    exact h9
  | true =>
    have e4 : b = (-4) := hb.mp hv
    subst e4
    have hd := q_dv ht (hi hv y hy) hu hy
    refine s_invT ⟨fun z => absurd z (by decide), fun _ => s_divide hn ht hq (hi hv y hy) hu hy (nm_r (e' := nI (qn_nbr true n t u (y + 1))) ?_ (nm_r (nI_1 y) ?_))⟩
    · rw [q_sh1 _ (by omega), fa_or]
      show _ = nI (qn_nbr true n t u y ||| (2 ^ t u y ||| 2 ^ qn_dv n t u y))
      rw [Nat.or_assoc]
    · have h9 := hk2 () trivial
      rw [hv] at h9
      exact h9
theorem s_with {post : Int32 → Prop} {v : Bool} {n H : Nat} {t : Nat → Nat → Nat} {b : Int32} {p q : Nat → Int32} (hk : qn_tk v n t) (hp : qn_tb n 0 t p) (hq : qn_qt n t q) (hb : v = true ↔ b = (-4)) (h : post (nI (qn_F v n t H))) : wp_X5_withNeighbours post (nI n) b p q (nI H) := by
  obtain ⟨hn, ht, hi⟩ := id hk
  refine pk_loop (fun f i s => wp_X5_withNeighbours_L4 (fun x => post x) (nI H) (nI n) b p q f s (nI i)) (fun i s => s = nI (H ||| qn_ry v n t H i)) n 0 (nI H) (by omega) (by show nI H = nI (H ||| 0); rw [Nat.or_zero]) (fun f s hs => pk_le n n (fun _ => by rw [hs]; exact h) (fun z => absurd z (by omega))) (fun f u s hu hs hk2 => pk_le n u (fun z => absurd z (by omega)) (fun _ => ?_))
  subst hs
  rw [q_sh1 u (by omega)]
  have hbit := fa_bit (n := H) (j := u) (by omega)
  cases hH : H.testBit u with
  | false =>
    refine ⟨fun _ => nm_r (nI_1 u) (hk2 _ ?_), fun z => absurd (hbit.mpr hH) z⟩
    have e : qn_ry v n t H (u + 1) = qn_ry v n t H u := if_neg (by rw [hH]; decide)
    rw [e]
  | true =>
    refine ⟨fun z => absurd ((hbit.mp z).symm.trans hH) (by decide), fun _ => s_neigh hk hp hq hb hu (nm_r (e' := nI (H ||| qn_ry v n t H (u + 1))) ?_ (nm_r (nI_1 u) (hk2 _ rfl)))⟩
    have e : qn_ry v n t H (u + 1) = qn_ry v n t H u ||| qn_nbr v n t u n := if_pos hH
    rw [e, fa_or, Nat.or_assoc]
/-- the first step at which nothing is added -/
def qn_ob (v : Bool) (n : Nat) (t : Nat → Nat → Nat) (x k : Nat) : Prop := qn_It v n t x (k + 1) = qn_It v n t x k ∧ ∀ j, j < k → qn_It v n t x (j + 1) ≠ qn_It v n t x j
theorem s_reach {post : Int32 → Prop} {v : Bool} {n x : Nat} {t : Nat → Nat → Nat} {b : Int32} {p q : Nat → Int32} (hk : qn_tk v n t) (hp : qn_tb n 0 t p) (hq : qn_qt n t q) (hb : v = true ↔ b = (-4)) (hx : x < n) (h : ∀ k, qn_ob v n t x k → post (nI (qn_It v n t x k))) : wp_X5_reachableFrom post (nI n) b p q (nI x) := by
  obtain ⟨hn, ht, hi⟩ := id hk
  refine nm_r (q_sh1 x (by omega)) (pk_loop (σ := Unit) (fun f i _ => wp_X5_reachableFrom_L6 post (fun y => post y) (nI n) b p q f (nI (qn_It v n t x i)) (nI i)) (fun i _ => i < fb_ct (qn_It v n t x i).testBit 6 ∧ ∀ j, j < i → qn_It v n t x (j + 1) ≠ qn_It v n t x j) n 0 () (by omega) ⟨q_ctp x (by omega), fun j hj => absurd hj (by omega)⟩ (fun f _ hI => ?_) (fun f i _ hi2 hI hk2 => pk_le n i (fun z => absurd z (by omega)) (fun _ => s_with hk hp hq hb ?_)))
  · have h1 := q_ctn n (by omega) _ (q_Itl hk hx n)
    exact absurd hI.1 (by omega)
  · have l1 := q_64 hn (q_Itl hk hx i)
    have l2 := q_64 hn (q_Itl hk hx (i + 1))
    refine (pk_eq (qn_It v n t x (i + 1)) (qn_It v n t x i) (fun e => h i ⟨e, hI.2⟩) (fun e => nm_r (nI_1 i) (hk2 () ⟨?_, lt_s hI.2 e⟩)) (ha := by omega) (hb := by omega)) |> fun r => ⟨r.2, r.1⟩
    have h1 := q_ct64 _ l1 _ (q_64 hn (q_ryl (H := qn_It v n t x i) hk n (Nat.le_refl n))) e
    have h2 := hI.1
    show i + 1 < fb_ct (qn_It v n t x i ||| qn_ry v n t (qn_It v n t x i) n).testBit 6
    omega
-- the reference
def qn_Pv (v : Bool) (n : Nat) (t : Nat → Nat → Nat) (x : Nat) : Nat → Nat
  | 0 => 0
  | k + 1 => qn_It v n t x k
theorem s_mRound {K : Int32 → Prop} {v : Bool} {n H : Nat} {t : Nat → Nat → Nat} {z : Int32} {N o : Nat → Int32} (hk : qn_tk v n t) (h84 : N 84 = nI n) (hp : qn_tb n 0 t N) (hq : v = true → qn_qt n t o) (hb : v = false ↔ z = 0) (hH : H < 64) (h : K (nI (qn_F v n t H))) : ∃ f, wp_X10_orbit_L44 K z (nI H) N o f (nI H) 0 := by
  obtain ⟨hn, ht, hi⟩ := id hk
  refine pk_loop (fun f i s => wp_X10_orbit_L44 K z (nI H) N o f s (nI i)) (fun i s => s = nI (H ||| qn_ry v n t H i)) n 0 (nI H) (by omega) (by show nI H = nI (H ||| 0); rw [Nat.or_zero]) (fun f s hs => ⟨pk_in 84 88 (by omega), ?_⟩) (fun f u s hu hs hk2 => ⟨pk_in 84 88 (by omega), ?_⟩)
  · rw [q84, h84]
    exact pk_le n n (fun _ => by rw [hs]; exact h) (fun z => absurd z (by omega))
  · rw [q84, h84]
    subst hs
    refine pk_le n u (fun z => absurd z (by omega)) (fun _ => ?_)
    have hbit := q_bitT hH (show u < 6 by omega)
    cases hHu : H.testBit u with
    | false =>
      refine ⟨1, pk_in 84 88 (by omega), ?_⟩
      rw [q84, h84]
      have e : qn_ry v n t H (u + 1) = qn_ry v n t H u := if_neg (by rw [hHu]; decide)
      refine pk_le n 0 (fun z => absurd z (by omega)) (fun _ => ⟨fun _ => nm_r (nI_1 u) (hk2 _ (by rw [e])), fun z => absurd ((hbit.mp z).symm.trans hHu) (by decide)⟩)
    | true =>
      have e : qn_ry v n t H (u + 1) = qn_ry v n t H u ||| qn_nbr v n t u n := if_pos hHu
      rw [show nI (H ||| qn_ry v n t H u) = nI ((H ||| qn_ry v n t H u) ||| qn_nbr v n t u 0) from by rw [show qn_nbr v n t u 0 = 0 from rfl, Nat.or_zero]]
      refine q_loop (σ := Unit) (fun K f i _ => wp_X10_orbit_L59 K z (nI H) (nI u) N o f (nI ((H ||| qn_ry v n t H u) ||| qn_nbr v n t u i)) (nI i)) (fun _ _ => True) n 0 () (by omega) trivial (fun f _ _ => ⟨pk_in 84 88 (by omega), ?_⟩) (fun f y _ hy _ hk3 => ⟨pk_in 84 88 (by omega), ?_⟩)
      · rw [q84, h84]
        refine pk_le n n (fun _ => nm_r (nI_1 u) (hk2 _ ?_)) (fun z => absurd z (by omega))
        rw [e, Nat.or_assoc]
      · rw [q84, h84]
        have hty := ht u y hu hy
        refine pk_le n y (fun z => absurd z (by omega)) (fun _ => ⟨fun q => absurd (hbit.mpr hHu) q, fun _ => s_of hn hp hu hy ⟨fun e0 => ?_, fun e0 => ⟨pk_in (6 * u + y) 36 (by omega) (hx := q_ix u y), ?_⟩⟩⟩)
        · have hv := hb.mpr e0
          refine nm_r (e' := nI ((H ||| qn_ry v n t H u) ||| qn_nbr v n t u (y + 1))) ?_ (nm_r (nI_1 y) (hk3 () trivial))
          rw [q_sh1 _ (by omega), show (0 : Int32) = nI 0 from rfl, fa_or, fa_or]
          show _ = nI (_ ||| (qn_nbr v n t u y ||| (2 ^ t u y ||| (if v then 2 ^ qn_dv n t u y else 0))))
          rw [hv, Nat.or_assoc]
          rfl
        · have hv : v = true := by
            cases hv : v with
            | false => exact absurd (hb.mp hv) e0
            | true => rfl
          have hd := q_dv ht (hi hv y hy) hu hy
          refine nm_r (e' := nI ((H ||| qn_ry v n t H u) ||| qn_nbr v n t u (y + 1))) ?_ (nm_r (nI_1 y) (hk3 () trivial))
          rw [pk_cl (6 * u + y) (q_ix u y), q_qt ht (hq hv) (hi hv y hy) hu hy, q_sh1 _ (by omega), q_sh1 _ (by omega), fa_or, fa_or]
          show _ = nI (_ ||| (qn_nbr v n t u y ||| (2 ^ t u y ||| (if v then 2 ^ qn_dv n t u y else 0))))
          rw [hv, Nat.or_assoc]
          rfl
theorem q_Pvl {v : Bool} {n : Nat} {t : Nat → Nat → Nat} {x : Nat} (hk : qn_tk v n t) (hx : x < n) : ∀ k, qn_Pv v n t x k < 2 ^ n
  | 0 => Nat.two_pow_pos n
  | k + 1 => q_Itl hk hx k
theorem s_mOrb {post : Int32 → (Nat → Int32) → Prop} {v : Bool} {n x k : Nat} {t : Nat → Nat → Nat} {z : Int32} {N o : Nat → Int32} (hk : qn_tk v n t) (h84 : N 84 = nI n) (hp : qn_tb n 0 t N) (hq : v = true → qn_qt n t o) (hb : v = false ↔ z = 0) (hx : x < n) (ho : qn_ob v n t x k) (h : post (nI (qn_It v n t x k)) o) : wp_X10_orbit_J24 post (nI x) z N o := by
  obtain ⟨hn, ht, hi⟩ := id hk
  refine nm_r (q_sh1 x (by omega)) (pk_loop (σ := Unit) (fun f i _ => wp_X10_orbit_L32 (fun y => post y o) z N o f (nI (qn_It v n t x i)) (nI (qn_Pv v n t x i))) (fun _ _ => True) (k + 1) 0 () (by omega) trivial (fun f _ _ => ?_) (fun f i _ hik _ hk2 => ?_))
  · have l1 := q_64 hn (q_Itl hk hx (k + 1))
    have l2 := q_64 hn (q_Pvl hk hx (k + 1))
    refine pk_eq (qn_Pv v n t x (k + 1)) (qn_It v n t x (k + 1)) (fun _ => ?_) (fun e => absurd ho.1.symm e) (ha := by omega) (hb := by omega)
    show post _ _
    rw [ho.1]
    exact h
  · have l1 := q_64 hn (q_Itl hk hx i)
    have l2 := q_64 hn (q_Pvl hk hx i)
    refine pk_eq (qn_Pv v n t x i) (qn_It v n t x i) (fun e => ?_) (fun _ => s_mRound hk h84 hp hq hb l1 (hk2 () trivial)) (ha := by omega) (hb := by omega)
    exfalso
    cases i with
    | zero =>
      have e2 : 0 = 2 ^ x := e
      have := Nat.two_pow_pos x
      omega
    | succ j => exact ho.2 j (by omega) e.symm
