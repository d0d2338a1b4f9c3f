-- floorMod
def qn_fmd (z d : Int32) : Int32 := if 0 ≤ (z ^^^ d) then z - z / d * d else if z - z / d * d = 0 then z - z / d * d else z - z / d * d + d
theorem s_fm {post : Int32 → Prop} {z d : Int32} (hd : ¬ d = 0) (h : post (qn_fmd z d)) : wp_J9_floorMod_7cf53 post z d := by
  refine ⟨hd, fun z1 e => ?_⟩
  unfold qn_fmd at h
  subst e
  refine ⟨fun c => ?_, fun c => ⟨fun c2 => ?_, fun c2 => ?_⟩⟩
  · rwa [if_pos c] at h
  · rwa [if_neg c, if_pos c2] at h
  · rwa [if_neg c, if_neg c2] at h
theorem s_linear {post : Int32 → Int32 → (Nat → Int32) → (Nat → Int32) → Prop} {n : Nat} {T : Nat → Nat → Nat} {xF yF sh : Int32} {a q : Nat → Int32} (hn1 : 1 ≤ n) (hn : n ≤ 6) (hT : ∀ x y, x < n → y < n → qn_fmd (xF * nI x + yF * nI y + sh) (nI n) = nI (T x y)) (hTn : ∀ x y, x < n → y < n → T x y < n)
    (h : ∀ b p' q', qn_IsBad n T b → qn_tb n 0 T p' → qn_qt n T q' → post (nI n) b p' q') : wp_X5_becomeLinear post a q (nI n) xF yF sh :=
  q_loop (fun K f i s => wp_X5_becomeLinear_L8 K (nI n) xF yF sh f (nI i) s) (fun i s => ∀ x y, x < i → y < n → s (6 * x + y) = nI (T x y)) n 0 a (by omega) (fun x y hx => absurd hx (by omega))
    (fun f s hI => pk_le n n (fun _ => s_refresh hn1 hn hTn (q_tbI (fun x y hx hy => hI x y hx hy)) (fun b q' hb hq => h b s q' hb (q_tbI (fun x y hx hy => hI x y hx hy)) hq)) (fun z => absurd z (by omega)))
    (fun f i s hi hI hk => pk_le n i (fun z => absurd z (by omega)) (fun _ =>
      q_loop (fun K f j s => wp_X5_becomeLinear_L17 K (nI n) xF yF sh (nI i) f (nI j) s) (fun j s => (∀ x y, x < i → y < n → s (6 * x + y) = nI (T x y)) ∧ ∀ y, y < j → s (6 * i + y) = nI (T i y)) n 0 s (by omega) ⟨hI, fun y hy => absurd hy (by omega)⟩
        (fun f s hJ => pk_le n n (fun _ => nm_r (nI_1 i) (hk s (fun x y hx hy => by
          by_cases e : x = i
          · rw [e]; exact hJ.2 y hy
          · exact hJ.1 x y (by omega) hy))) (fun z => absurd z (by omega)))
        (fun f j s hj hJ hk2 => pk_le n j (fun z => absurd z (by omega)) (fun _ => s_fm (nI_ne0 (by omega) (by omega)) (by
          rw [hT i j hi hj]
          refine s_put (by omega) (by omega) (nm_r (nI_1 j) (hk2 _ ⟨fun x y hx hy => ?_, fun y hy => ?_⟩))
          · rw [pk_un (by omega)]; exact hJ.1 x y hx hy
          · by_cases e : y = j
            · rw [e, pk_us]
            · rw [pk_un (by omega)]; exact hJ.2 y (by omega))))))
-- the tables that are loaded
def qn_Dih (n x y : Nat) : Nat := (2 * y + 36 * n - x) % n
def qn_Alx (n a x y : Nat) : Nat := (a * x + y + 36 * n - a * y) % n
def qn_Cyc (n x _y : Nat) : Nat := (x + 1) % n
theorem q_fT : ∀ n, n < 7 → 0 < n → ∀ x, x < n → ∀ y, y < n → qn_fmd (1 * nI x + 0 * nI y + 0) (nI n) = nI x := by decide +kernel
theorem q_fD : ∀ n, n < 7 → 0 < n → ∀ x, x < n → ∀ y, y < n → qn_fmd ((-1) * nI x + 2 * nI y + 0) (nI n) = nI (qn_Dih n x y) := by decide +kernel
theorem q_fC : ∀ n, n < 7 → 0 < n → ∀ x, x < n → ∀ y, y < n → qn_fmd (1 * nI x + 0 * nI y + 1) (nI n) = nI (qn_Cyc n x y) := by decide +kernel
theorem q_fA : ∀ n, n < 7 → 0 < n → ∀ a, a < n → ∀ x, x < n → ∀ y, y < n → qn_fmd (nI a * nI x + (1 - nI a) * nI y + 0) (nI n) = nI (qn_Alx n a x y) := by decide +kernel
theorem q_rD : ∀ n, n < 7 → 0 < n → ∀ x, x < n → ∀ y, y < n → ((((-1) * nI x) + ((1 - (-1)) * nI y)) + (36 * nI n)) - ((((-1) * nI x) + ((1 - (-1)) * nI y)) + (36 * nI n)) / nI n * nI n = nI (qn_Dih n x y) := by decide +kernel
theorem q_rA : ∀ n, n < 7 → 0 < n → ∀ a, a < n → ∀ x, x < n → ∀ y, y < n → (((nI a * nI x) + ((1 - nI a) * nI y)) + (36 * nI n)) - (((nI a * nI x) + ((1 - nI a) * nI y)) + (36 * nI n)) / nI n * nI n = nI (qn_Alx n a x y) := by decide +kernel
theorem q_rC : ∀ n, n < 7 → 0 < n → ∀ x, x < n → (nI x + 1) - (nI x + 1) / nI n * nI n = nI ((x + 1) % n) := by decide +kernel
-- conjugation
def qn_pN (j : Nat) : Nat := [0, 1, 2, 0, 2, 1, 1, 0, 2, 1, 2, 0, 2, 0, 1, 2, 1, 0].getD j 0
theorem q_pN : ∀ j, j < 18 → qn_perm j = nI (qn_pN j) := by decide +kernel
theorem q_pN3 : ∀ j, j < 18 → qn_pN j < 3 := by decide +kernel
def qn_im (k i : Nat) : Nat := qn_pN (3 * k + i)
theorem q_im3 {k i : Nat} (hk : k < 6) (hi : i < 3) : qn_im k i < 3 := q_pN3 _ (by omega)
theorem s_image {post : Int32 → Prop} {k i : Nat} (hk : k < 6) (hi : i < 3) (h : post (nI (qn_im k i))) : wp_X5_image post (nI k) (nI i) := by
  have e : (3 : Int32) * nI k + nI i = nI (3 * k + i) := by rw [show (3 : Int32) = nI 3 from rfl, pk_mul, nI_add]
  refine nm_r e (pk_lt (3 * k + i) 0 (fun z => absurd z (by omega)) (fun _ => pk_le 18 (3 * k + i) (fun z => absurd z (by omega)) (fun _ => ⟨pk_in (3 * k + i) 18 (by omega), ?_⟩)))
  rw [pk_cl (3 * k + i), q_pN _ (by omega)]
  exact h
def qn_sm (p q r s : Nat) : Bool := decide (qn_im p (qn_im q 0) = qn_im r (qn_im s 0)) && decide (qn_im p (qn_im q 1) = qn_im r (qn_im s 1)) && decide (qn_im p (qn_im q 2) = qn_im r (qn_im s 2))
theorem s_same {post : Int32 → Prop} {p q r s : Nat} (hp : p < 6) (hq : q < 6) (hr : r < 6) (hs : s < 6) (h1 : qn_sm p q r s = true → post 1) (h0 : qn_sm p q r s = false → post 0) : wp_X5_sameProducts post (nI p) (nI q) (nI r) (nI s) :=
  pk_loop (σ := Unit) (fun f i _ => wp_X5_sameProducts_L3 post (post 1) (nI p) (nI q) (nI r) (nI s) f (nI i)) (fun i _ => ∀ j, j < i → qn_im p (qn_im q j) = qn_im r (qn_im s j)) 3 0 () (by omega) (fun j hj => absurd hj (by omega))
    (fun f _ hI => pk_le 3 3 (fun _ => h1 (by simp [qn_sm, hI 0 (by omega), hI 1 (by omega), hI 2 (by omega)])) (fun z => absurd z (by omega)))
    (fun f i _ hi hI hk => pk_le 3 i (fun z => absurd z (by omega)) (fun _ => s_image hq hi (s_image hp (q_im3 hq hi) (s_image hs hi (s_image hr (q_im3 hs hi) (
      (pk_eq (qn_im p (qn_im q i)) (qn_im r (qn_im s i)) (fun z => nm_r (nI_1 i) (hk () (lt_s hI z))) (fun z => h0 (by
        rcases (show i = 0 ∨ i = 1 ∨ i = 2 by omega) with rfl | rfl | rfl <;> simp [qn_sm, z])) (ha := Nat.lt_trans (q_im3 hp (q_im3 hq hi)) (by decide)) (hb := Nat.lt_trans (q_im3 hr (q_im3 hs hi)) (by decide)))))))))
def qn_cj (x y : Nat) : Nat := fa_first (fun c => qn_sm y c x y) 6
theorem q_cj6 : ∀ x, x < 6 → ∀ y, y < 6 → qn_cj x y < 6 := by decide +kernel
theorem s_conj {post : Int32 → Prop} {x y : Nat} (hx : x < 6) (hy : y < 6) (h : post (nI (qn_cj x y))) : wp_X5_conjugate post (nI x) (nI y) := by
  have hc := q_cj6 x hx y hy
  have hyes := fa_first_yes (fun c => qn_sm y c x y) 6 hc
  refine pk_loop (σ := Unit) (fun f i _ => wp_X5_conjugate_L2 post (post (nI x)) (nI x) (nI y) f (nI i)) (fun i _ => True) (qn_cj x y) 0 () (by omega) trivial (fun f _ _ => ?_) (fun f i _ hi _ hk => ?_)
  · exact pk_le 6 (qn_cj x y) (fun z => absurd z (by omega)) (fun _ => s_same hy hc hx hy (fun _ => ⟨fun z => absurd z (by decide), fun _ => h⟩) (fun e => absurd (hyes.symm.trans e) (by decide)))
  · have hno := fa_first_no (fun c => qn_sm y c x y) 6 i hi
    exact pk_le 6 i (fun z => absurd z (by omega)) (fun _ => s_same hy (by omega) hx hy (fun e => absurd (e.symm.trans hno) (by decide)) (fun _ => ⟨fun _ => nm_r (nI_1 i) (hk () trivial), fun z => absurd rfl z⟩))
theorem s_becomeConj {post : Int32 → Int32 → (Nat → Int32) → (Nat → Int32) → Prop} {a q : Nat → Int32} (h : ∀ b p' q', qn_IsBad 6 qn_cj b → qn_tb 6 0 qn_cj p' → qn_qt 6 qn_cj q' → post 6 b p' q') : wp_X5_becomeConjugation post a q := by
  have hTn : ∀ x y, x < 6 → y < 6 → qn_cj x y < 6 := fun x y hx hy => q_cj6 x hx y hy
  refine q_loop (fun K f i s => wp_X5_becomeConjugation_L8 K f (nI i) s) (fun i s => ∀ x y, x < i → y < 6 → s (6 * x + y) = nI (qn_cj x y)) 6 0 a (by omega) (fun x y hx => absurd hx (by omega))
    (fun f s hI => pk_le 6 6 (fun _ => s_refresh (n := 6) (t := qn_cj) (by omega) (by omega) hTn (q_tbI (fun x y hx hy => hI x y hx hy)) (fun b q' hb hq => h b s q' hb (q_tbI (fun x y hx hy => hI x y hx hy)) hq)) (fun z => absurd z (by omega)))
    (fun f i s hi hI hk => pk_le 6 i (fun z => absurd z (by omega)) (fun _ =>
      q_loop (fun K f j s => wp_X5_becomeConjugation_L16 K (nI i) f (nI j) s) (fun j s => (∀ x y, x < i → y < 6 → s (6 * x + y) = nI (qn_cj x y)) ∧ ∀ y, y < j → s (6 * i + y) = nI (qn_cj i y)) 6 0 s (by omega) ⟨hI, fun y hy => absurd hy (by omega)⟩
        (fun f s hJ => pk_le 6 6 (fun _ => nm_r (nI_1 i) (hk s (fun x y hx hy => by
          by_cases e : x = i
          · rw [e]; exact hJ.2 y hy
          · exact hJ.1 x y (by omega) hy))) (fun z => absurd z (by omega)))
        (fun f j s hj hJ hk2 => pk_le 6 j (fun z => absurd z (by omega)) (fun _ => s_conj hi hj (by
          refine s_put (by omega) (by omega) (nm_r (nI_1 j) (hk2 _ ⟨fun x y hx hy => ?_, fun y hy => ?_⟩))
          · rw [pk_un (by omega)]; exact hJ.1 x y hx hy
          · by_cases e : y = j
            · rw [e, pk_us]
            · rw [pk_un (by omega)]; exact hJ.2 y (by omega))))))
-- the reference: a new operation
theorem s_loads {post : Int32 → (Nat → Int32) → (Nat → Int32) → Prop} {c : Nat} {N H : Nat → Int32} {z : Int32} (hc : c ≤ 5) (h : ∀ N' H', qn_Hst c H N H' → N' 84 = z → (∀ j, j < 72 → N' j = 0) → (∀ j, 72 ≤ j → j ≠ 84 → N' j = N j) → post (nI (qn_nx c)) N' H') : wp_X10_loads post (nI c) N H z := by
  refine s_edit hc (fun H' hH => ⟨pk_in 84 88 (by omega), fun N1 e1 => ?_⟩)
  rw [q84] at e1
  refine q_loop (fun K f i s => wp_X10_loads_L14 K f (nI i) s) (fun i s => s 84 = z ∧ (∀ j, j < i → s j = 0) ∧ (∀ j, j < i → s (36 + j) = 0) ∧ ∀ j, 72 ≤ j → j ≠ 84 → s j = N j) 36 0 N1 (by omega) ⟨by rw [e1, pk_us], fun j hj => absurd hj (by omega), fun j hj => absurd hj (by omega), fun j h1 h2 => by rw [e1, pk_un h2]⟩
    (fun f s hI => pk_le 36 36 (fun _ => h s H' hH hI.1 (fun j hj => ?_) hI.2.2.2) (fun z => absurd z (by omega))) (fun f i s hi hI hk => ?_)
  · rcases Nat.lt_or_ge j 36 with q | q
    · exact hI.2.1 j q
    · have := hI.2.2.1 (j - 36) (by omega)
      rwa [show 36 + (j - 36) = j by omega] at this
  · have e : (36 : Int32) + nI i = nI (36 + i) := nI_add 36 i
    refine pk_le 36 i (fun z => absurd z (by omega)) (fun _ => ⟨pk_in i 88 (by omega), nm_r (by rw [pk_cl i]) ⟨pk_in (36 + i) 88 (by omega) (hx := e), nm_r (by rw [pk_cl (36 + i) e]) (nm_r (nI_1 i) (hk _ ⟨?_, fun j hj => ?_, fun j hj => ?_, fun j h1 h2 => ?_⟩))⟩⟩)
    · rw [pk_un (by omega), pk_un (by omega)]; exact hI.1
    · rw [pk_un (by omega)]
      by_cases e2 : j = i
      · rw [e2, pk_us]
      · rw [pk_un e2]; exact hI.2.1 j (by omega)
    · by_cases e2 : j = i
      · rw [e2, pk_us]
      · rw [pk_un (by omega), pk_un (by omega)]; exact hI.2.2.1 j (by omega)
    · rw [pk_un (by omega), pk_un (by omega)]; exact hI.2.2.2 j h1 h2
