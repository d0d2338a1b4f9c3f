-- automorphisms
def qn_hm (n : Nat) (t : Nat → Nat → Nat) (R : Nat → Nat) : Bool := decide (∀ x, x < n → ∀ y, y < n → R (t x y) = t (R x) (R y))
theorem s_imgOf {post : Int32 → Prop} {x : Nat} {a : Nat → Int32} {v : Int32} (hx : x < 6) (e : a x = v) (h : post v) : wp_X0_imageOf post a (nI x) :=
  pk_lt x 0 (fun z => absurd z (by omega)) (fun _ => pk_le 6 x (fun z => absurd z (by omega)) (fun _ => ⟨pk_in x 6 hx, by rw [pk_cl x, e]; exact h⟩))
theorem s_hom {post : Int32 → Prop} {n : Nat} {t : Nat → Nat → Nat} {R : Nat → Nat} {p a : Nat → Int32} (hn : n ≤ 6) (ht : ∀ x y, x < n → y < n → t x y < n) (hp : qn_tb n 0 t p) (ha : ∀ i, i < n → a i = nI (R i)) (hR : ∀ i, i < n → R i < n) (h1 : qn_hm n t R = true → post 1) (h0 : qn_hm n t R = false → post 0) : wp_X0_isHomomorphism post (nI n) p a := by
  refine pk_loop (σ := Unit) (fun f i _ => wp_X0_isHomomorphism_L2 post (post 1) (nI n) p a f (nI i)) (fun i _ => ∀ x, x < i → ∀ y, y < n → R (t x y) = t (R x) (R y)) n 0 () (by omega) (fun x hx => absurd hx (by omega)) (fun f _ hI => pk_le n n (fun _ => h1 (decide_eq_true hI)) (fun z => absurd z (by omega))) (fun f x _ hx hI hk => pk_le n x (fun z => absurd z (by omega)) (fun _ => ?_))
  refine q_loop (σ := Unit) (fun K f i _ => wp_X0_isHomomorphism_L12 post K (nI x) (nI n) p a f (nI i)) (fun i _ => ∀ y, y < i → R (t x y) = t (R x) (R y)) n 0 () (by omega) (fun y hy => absurd hy (by omega)) (fun f _ hJ => pk_le n n (fun _ => nm_r (nI_1 x) (hk () (lt_s hI hJ))) (fun z => absurd z (by omega))) (fun f y _ hy hJ hk2 => pk_le n y (fun z => absurd z (by omega)) (fun _ => ?_))
  have txy := ht x y hx hy
  have b1 := hR _ txy
  have b2 := ht _ _ (hR x hx) (hR y hy)
  refine s_product hn hp hx hy (s_imgOf (by omega) (ha _ txy) (s_imgOf (by omega) (ha _ hx) (s_imgOf (by omega) (ha _ hy) (s_product hn hp (hR x hx) (hR y hy) (pk_eq (R (t x y)) (t (R x) (R y)) (fun e => nm_r (nI_1 y) (hk2 () (lt_s hJ e))) (fun e => h0 (decide_eq_false (fun hall => e (hall x hx y hy)))) (ha := by omega) (hb := by omega))))))
theorem s_mIsAut {post : Int32 → Prop} {n : Nat} {t : Nat → Nat → Nat} {R : Nat → Nat} {N o : Nat → Int32} (hn : n ≤ 6) (ht : ∀ x y, x < n → y < n → t x y < n) (h84 : N 84 = nI n) (hp : qn_tb n 0 t N) (ha : ∀ i, i < n → o i = nI (R i)) (hR : ∀ i, i < n → R i < n) (h1 : qn_hm n t R = true → post 1) (h0 : qn_hm n t R = false → post 0) : wp_X10_isAutomorphism post N o := by
  refine pk_loop (fun f i s => wp_X10_isAutomorphism_L4 (fun x => (x = 0 ∨ x = 1) ∧ post x) N o f s (nI i)) (fun i s => (s = 1 ∧ ∀ x, x < i → ∀ y, y < n → R (t x y) = t (R x) (R y)) ∨ (s = 0 ∧ qn_hm n t R = false)) n 0 1 (by omega) (Or.inl ⟨rfl, fun x hx => absurd hx (by omega)⟩) (fun f s hI => ⟨pk_in 84 88 (by omega), ?_⟩) (fun f x s hx hI hk => ⟨pk_in 84 88 (by omega), ?_⟩)
  · rw [q84, h84]
    refine pk_le n n (fun _ => ?_) (fun z => absurd z (by omega))
    rcases hI with ⟨rfl, hI⟩ | ⟨rfl, hI⟩
    · exact ⟨Or.inr rfl, h1 (decide_eq_true hI)⟩
    · exact ⟨Or.inl rfl, h0 hI⟩
  · rw [q84, h84]
    refine pk_le n x (fun z => absurd z (by omega)) (fun _ => ?_)
    refine q_loop (fun K f i s => wp_X10_isAutomorphism_L17 K (nI x) N o f s (nI i)) (fun i s => (s = 1 ∧ (∀ z, z < x → ∀ y, y < n → R (t z y) = t (R z) (R y)) ∧ ∀ y, y < i → R (t x y) = t (R x) (R y)) ∨ (s = 0 ∧ qn_hm n t R = false)) n 0 s (by omega) ?_ (fun f s hJ => ⟨pk_in 84 88 (by omega), ?_⟩) (fun f y s hy hJ hk2 => ⟨pk_in 84 88 (by omega), ?_⟩)
    · rcases hI with ⟨e, hI⟩ | ⟨e, hI⟩
      · exact Or.inl ⟨e, hI, fun y hy => absurd hy (by omega)⟩
      · exact Or.inr ⟨e, hI⟩
    · rw [q84, h84]
      refine pk_le n n (fun _ => nm_r (nI_1 x) (hk s ?_)) (fun z => absurd z (by omega))
      rcases hJ with ⟨e, h2, h3⟩ | ⟨e, hJ⟩
      · exact Or.inl ⟨e, lt_s h2 h3⟩
      · exact Or.inr ⟨e, hJ⟩
    · rw [q84, h84]
      refine pk_le n y (fun z => absurd z (by omega)) (fun _ => ?_)
      rcases hJ with ⟨rfl, h2, h3⟩ | ⟨rfl, hJ⟩
      · have txy := ht x y hx hy
        have b1 := hR _ txy
        have b2 := ht _ _ (hR x hx) (hR y hy)
        refine ⟨fun z => absurd z (by decide), fun _ => s_of hn hp hx hy ⟨pk_in (t x y) 6 (by omega), pk_in x 6 (by omega), pk_in y 6 (by omega), ?_⟩⟩
        rw [pk_cl (x := nI x) x, pk_cl (x := nI y) y, pk_cl (x := nI (t x y)) (t x y), ha _ hx, ha _ hy, ha _ txy]
        exact s_of hn hp (hR x hx) (hR y hy) (q_ne (R (t x y)) (t (R x) (R y)) (fun e => nm_r (nI_1 y) (hk2 1 (Or.inl ⟨rfl, h2, lt_s h3 e⟩))) (fun e => nm_r (nI_1 y) (hk2 0 (Or.inr ⟨rfl, decide_eq_false (fun hall => e (hall x hx y hy))⟩))) (ha := by omega) (hb := by omega))
      · exact ⟨fun _ => nm_r (nI_1 x) (hk 0 (Or.inr ⟨rfl, hJ⟩)), fun z => absurd rfl z⟩
theorem s_mAuto {post : Int32 → (Nat → Int32) → Prop} {n : Nat} {t : Nat → Nat → Nat} {N o : Nat → Int32} (hn1 : 1 ≤ n) (hn : n ≤ 6) (ht : ∀ x y, x < n → y < n → t x y < n) (h84 : N 84 = nI n) (hp : qn_tb n 0 t N) (h : ∀ o', post (nI (fb_ct (fun k => qn_hm n t (qn_un n k)) (qn_fc n))) o') : wp_X10_automorphismCount post N o := by
  have h720 := q_fcle n (by omega)
  refine ⟨pk_in 84 88 (by omega), ?_⟩
  rw [q84, h84]
  refine s_fact hn1 hn (pk_loop (fun f i o => wp_X10_automorphismCount_L15 (fun x y => post x y) (nI (qn_fc n)) N f (nI (fb_ct (fun k => qn_hm n t (qn_un n k)) i)) (nI i) o) (fun _ _ => True) (qn_fc n) 0 o (Nat.zero_le _) trivial (fun f o _ => pk_le (qn_fc n) (qn_fc n) (fun _ => h o) (fun z => absurd z (by omega))) (fun f k o hk _ hk2 => pk_le (qn_fc n) k (fun z => absurd z (by omega)) (fun _ => ⟨pk_in 84 88 (by omega), ?_⟩)))
  rw [q84, h84]
  exact s_unrank hn1 hn hk (fun o' ho' => s_mIsAut hn ht h84 hp ho' (fun i hi => q_unn n (by omega) k hk i hi) (fun e => ⟨fun z => absurd z (by decide), fun _ => nm_r (q_ctT (p := fun k => qn_hm n t (qn_un n k)) e) (nm_r (nI_1 k) (hk2 o' trivial))⟩) (fun e => ⟨fun _ => nm_r (q_ctF0 (p := fun k => qn_hm n t (qn_un n k)) e) (nm_r (nI_1 k) (hk2 o' trivial)), fun z => absurd rfl z⟩))
-- the class: all rows of images
def qn_cat (f : Nat → List (List Nat)) : Nat → Nat → List (List Nat)
  | _, 0 => []
  | a, c + 1 => f a ++ qn_cat f (a + 1) c
def qn_lv (n : Nat) : Nat → List Nat → Nat → List (List Nat)
  | 0, pre, _ => [pre]
  | d + 1, pre, u => qn_cat (fun v => if u.testBit v then [] else qn_lv n d (pre ++ [v]) (u ||| 2 ^ v)) 0 n
def qn_cl (p : List Nat → Bool) : List (List Nat) → Nat
  | [] => 0
  | a :: l => (if p a then 1 else 0) + qn_cl p l
def qn_cs (n : Nat) (p : List Nat → Bool) : Nat → List Nat → Nat → Nat
  | 0, pre, _ => if p pre then 1 else 0
  | d + 1, pre, u => fb_sm (fun v => if u.testBit v then 0 else qn_cs n p d (pre ++ [v]) (u ||| 2 ^ v)) n
theorem q_clA (p : List Nat → Bool) : ∀ a b, qn_cl p (a ++ b) = qn_cl p a + qn_cl p b
  | [], b => (Nat.zero_add _).symm
  | x :: a, b => by
    show (if p x then 1 else 0) + qn_cl p (a ++ b) = (if p x then 1 else 0) + qn_cl p a + qn_cl p b
    rw [q_clA p a b, Nat.add_assoc]
theorem q_clC (p : List Nat → Bool) (f : Nat → List (List Nat)) : ∀ c a, qn_cl p (qn_cat f a c) = fb_sm (fun i => qn_cl p (f (a + i))) c
  | 0, _ => rfl
  | c + 1, a => by
    show qn_cl p (f a ++ qn_cat f (a + 1) c) = _
    rw [q_clA, q_clC p f c (a + 1), Nat.add_comm c 1, fb_sm_split]
    show _ = 0 + qn_cl p (f (a + 0)) + _
    rw [Nat.zero_add, Nat.add_zero]
    congr 1
    exact fb_sm_cong (fun k _ => by rw [Nat.add_assoc])
theorem q_csl (n : Nat) (p : List Nat → Bool) : ∀ d pre u, qn_cs n p d pre u = qn_cl p (qn_lv n d pre u)
  | 0, pre, _ => rfl
  | d + 1, pre, u => by
    show fb_sm _ n = qn_cl p (qn_cat _ 0 n)
    rw [q_clC]
    refine fb_sm_cong (fun v _ => ?_)
    rw [Nat.zero_add]
    by_cases e : u.testBit v = true
    · rw [if_pos e, if_pos e]
      rfl
    · rw [if_neg e, if_neg e]
      exact q_csl n p d _ _
theorem q_leaf : ∀ n, n < 7 → 0 < n → qn_lv n n [] 0 = qn_cat (fun k => [(List.range n).map (qn_un n k)]) 0 (qn_fc n) := by decide +kernel
theorem q_smct (p : Nat → Bool) : ∀ m, fb_sm (fun k => (if p k then 1 else 0) + 0) m = fb_ct p m
  | 0 => rfl
  | m + 1 => by
    rw [fb_sm_succ, fb_ct_succ, q_smct p m, Nat.add_zero]
theorem q_all {n : Nat} (p : List Nat → Bool) (hn1 : 1 ≤ n) (hn : n ≤ 6) : qn_cs n p n [] 0 = fb_ct (fun k => p ((List.range n).map (qn_un n k))) (qn_fc n) := by
  rw [q_csl, q_leaf n (by omega) (by omega), q_clC, ← q_smct]
  refine fb_sm_cong (fun k _ => ?_)
  rw [Nat.zero_add]
  rfl
theorem q_gdl {l : List Nat} {v i : Nat} (h : i < l.length) : (l ++ [v]).getD i 0 = l.getD i 0 := by
  rw [List.getD_eq_getElem?_getD, List.getD_eq_getElem?_getD, List.getElem?_append_left h]
theorem q_gdr (l : List Nat) (v : Nat) : (l ++ [v]).getD l.length 0 = v := by
  rw [List.getD_eq_getElem?_getD, List.getElem?_append_right (Nat.le_refl _), Nat.sub_self]
  rfl
theorem q_gdm {n i : Nat} {f : Nat → Nat} (h : i < n) : ((List.range n).map f).getD i 0 = f i := by
  rw [List.getD_eq_getElem?_getD, List.getElem?_map, List.getElem?_range h]
  rfl
theorem q_hmc {n : Nat} {t : Nat → Nat → Nat} {R S : Nat → Nat} (ht : ∀ x y, x < n → y < n → t x y < n) (h : ∀ i, i < n → R i = S i) : qn_hm n t R = qn_hm n t S := by
  unfold qn_hm
  refine decide_eq_decide.mpr ⟨fun q x hx y hy => ?_, fun q x hx y hy => ?_⟩
  · have h9 := q x hx y hy
    rwa [h _ (ht x y hx hy), h x hx, h y hy] at h9
  · have h9 := q x hx y hy
    rwa [← h _ (ht x y hx hy), ← h x hx, ← h y hy] at h9
theorem s_ext {n : Nat} {t : Nat → Nat → Nat} {b : Int32} {p : Nat → Int32} (hn : n ≤ 6) (ht : ∀ x y, x < n → y < n → t x y < n) (hp : qn_tb n 0 t p) : ∀ (d x : Nat), x + d = n → ∀ (F : Nat), d < F → ∀ (pre : List Nat) (u : Nat) (a : Nat → Int32) (post : Int32 → (Nat → Int32) → Prop), pre.length = x → (∀ i, i < x → a i = nI (pre.getD i 0)) → (∀ i, i < x → pre.getD i 0 < n) → (∀ a', (∀ i, i < x → a' i = a i) → post (nI (qn_cs n (fun l => qn_hm n t (fun i => l.getD i 0)) d pre u)) a') → wp_X0_countExtensions F post (nI n) b p a (nI x) (nI u) := by
  intro d
  induction d with
  | zero =>
    intro x hx F hF pre u a post hl ha hb h
    obtain ⟨F', rfl⟩ : ∃ F', F = F' + 1 := ⟨F - 1, by omega⟩
    have ex : x = n := by omega
    subst ex
    have h9 := h a (fun _ _ => rfl)
    refine pk_le x x (fun _ => s_hom hn ht hp ha hb (fun e => ⟨fun z => absurd z (by decide), fun _ => ?_⟩) (fun e => ⟨fun _ => ?_, fun z => absurd rfl z⟩)) (fun z => absurd z (by omega))
    · rw [show qn_cs x (fun l => qn_hm x t (fun i => l.getD i 0)) 0 pre u = 1 from if_pos e] at h9
      exact h9
    · rw [show qn_cs x (fun l => qn_hm x t (fun i => l.getD i 0)) 0 pre u = 0 from if_neg (by show ¬ qn_hm x t (fun i => pre.getD i 0) = true; rw [e]; decide)] at h9
      exact h9
  | succ d ih =>
    intro x hx F hF pre u a post hl ha hb h
    obtain ⟨F', rfl⟩ : ∃ F', F = F' + 1 := ⟨F - 1, by omega⟩
    refine pk_le n x (fun z => absurd z (by omega)) (fun _ => pk_lt x 6 (fun _ => ?_) (fun z => absurd z (by omega)))
    refine pk_loop (fun f i a' => wp_X0_countExtensions_L34 (wp_X0_countExtensions F') (fun c a => post c a) (nI x) (nI u) (nI n) b p f (nI (fb_sm (fun v => if u.testBit v then 0 else qn_cs n (fun l => qn_hm n t (fun i => l.getD i 0)) d (pre ++ [v]) (u ||| 2 ^ v)) i)) (nI i) a') (fun _ a' => ∀ i, i < x → a' i = a i) n 0 a (Nat.zero_le _) (fun _ _ => rfl) (fun f a' hI => pk_le n n (fun _ => h a' hI) (fun z => absurd z (by omega))) (fun f v a' hv hI hk => pk_le n v (fun z => absurd z (by omega)) (fun _ => ?_))
    rw [q_sh1 v (by omega)]
    have hbit := fa_bit (n := u) (j := v) (by omega)
    cases hu : u.testBit v with
    | true =>
      refine ⟨fun _ => nm_r (nI_1 v) ?_, fun z => absurd ((hbit.mp z).symm.trans hu) (by decide)⟩
      have e : fb_sm (fun v => if u.testBit v then 0 else qn_cs n (fun l => qn_hm n t (fun i => l.getD i 0)) d (pre ++ [v]) (u ||| 2 ^ v)) (v + 1) = fb_sm (fun v => if u.testBit v then 0 else qn_cs n (fun l => qn_hm n t (fun i => l.getD i 0)) d (pre ++ [v]) (u ||| 2 ^ v)) v := by
        rw [fb_sm_succ, if_pos hu, Nat.add_zero]
      rw [← e]
      exact hk a' hI
    | false =>
      refine ⟨fun z => absurd (hbit.mpr hu) z, fun _ => ⟨pk_in x 6 (by omega), nm_r (by rw [pk_cl x]) ?_⟩⟩
      rw [nI_1 x, fa_or]
      refine ih (x + 1) (by omega) F' (by omega) (pre ++ [v]) (u ||| 2 ^ v) _ _ (by rw [List.length_append, hl]; rfl) (fun i hi => ?_) (fun i hi => ?_) (fun a2 ha2 => nm_r (e' := nI (fb_sm (fun v => if u.testBit v then 0 else qn_cs n (fun l => qn_hm n t (fun i => l.getD i 0)) d (pre ++ [v]) (u ||| 2 ^ v)) (v + 1))) ?_ (nm_r (nI_1 v) (hk a2 (fun i hi => ?_))))
      · by_cases e : i = x
        · rw [e, pk_us, ← hl, q_gdr]
        · rw [pk_un e, q_gdl (by omega), hI i (by omega)]
          exact ha i (by omega)
      · by_cases e : i = x
        · rw [e, ← hl, q_gdr]
          exact hv
        · rw [q_gdl (by omega)]
          exact hb i (by omega)
      · rw [fb_sm_succ, if_neg (by rw [hu]; decide), nI_add]
      · rw [ha2 i (by omega), pk_un (by omega)]
        exact hI i hi
theorem s_autos {post : Int32 → (Nat → Int32) → Prop} {n : Nat} {t : Nat → Nat → Nat} {b : Int32} {p a : Nat → Int32} (hn1 : 1 ≤ n) (hn : n ≤ 6) (ht : ∀ x y, x < n → y < n → t x y < n) (hp : qn_tb n 0 t p) (h : ∀ a', post (nI (fb_ct (fun k => qn_hm n t (qn_un n k)) (qn_fc n))) a') : wp_X0_countFor post a (nI n) b p := by
  refine s_ext hn ht hp n 0 (by omega) 8 (by omega) [] 0 a _ rfl (fun i hi => absurd hi (by omega)) (fun i hi => absurd hi (by omega)) (fun a' _ => ?_)
  rw [q_all _ hn1 hn]
  have e : fb_ct (fun k => qn_hm n t (fun i => ((List.range n).map (qn_un n k)).getD i 0)) (qn_fc n) = fb_ct (fun k => qn_hm n t (qn_un n k)) (qn_fc n) := fb_ct_cong (fun k _ => q_hmc ht (fun i hi => q_gdm hi))
  rw [e]
  exact h a'
