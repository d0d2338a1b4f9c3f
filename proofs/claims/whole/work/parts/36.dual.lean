-- the dual operation
theorem s_dual {post : Int32 → (Nat → Int32) → (Nat → Int32) → Prop} {n : Nat} {t : Nat → Nat → Nat} {p q : Nat → Int32} (hn1 : 1 ≤ n) (hn : n ≤ 6) (ht : ∀ x y, x < n → y < n → t x y < n) (hi : ∀ y, y < n → qn_inj n t y) (hq : qn_qt n t q) (h : ∀ b p' q', qn_IsBad n (qn_dv n t) b → qn_tb n 0 (qn_dv n t) p' → qn_qt n (qn_dv n t) q' → post b p' q') : wp_X5_becomeDual post (nI n) p q := by
  refine s_copy (fun c hc => ?_)
  have tb : qn_tb n 0 (qn_dv n t) c := q_tbI (fun x y hx hy => by rw [hc _ (by omega), q_qt ht hq (hi y hy) hx hy])
  exact s_refresh hn1 hn (fun x y hx hy => (q_dv ht (hi y hy) hx hy).1) tb (fun b q' hb hq' => h b c q' hb tb hq')
theorem s_mDual {post : Int32 → Int32 → (Nat → Int32) → (Nat → Int32) → (Nat → Int32) → Prop} {c n : Nat} {t : Nat → Nat → Nat} {N H o : Nat → Int32} (hc : c ≤ 5) (hn1 : 1 ≤ n) (hn : n ≤ 6) (ht : ∀ x y, x < n → y < n → t x y < n) (h84 : N 84 = nI n) (hp : qn_tb n 0 t N) (hinj : ∀ y, y < n → qn_inj n t y) (h : ∀ N' H' o, qn_Hst c H N H' → qn_Ld n (qn_dv n t) N N' → post (nI n) (nI (qn_nx c)) N' H' o) : wp_X10_loadDual post (nI c) N H o := by
  refine s_column hn ht h84 hp (fun b o hb ho => ?_)
  rcases hb with ⟨rfl, -⟩ | ⟨y, hy, e, hni, -⟩
  · have hq := ho hinj
    refine ⟨fun _ => ⟨pk_in 84 88 (by omega), nm_r (e' := nI n) (by rw [q84, h84]) (s_loads hc (fun N1 H' hH h84' hz hoo => ?_))⟩, fun z => absurd rfl z⟩
    refine q_loop (fun K f i s => wp_X10_loadDual_L27 K (nI n) o f (nI i) s) (fun i s => (∀ x y, x < i → y < n → s (6 * x + y) = nI (qn_dv n t x y)) ∧ ∀ j, 36 ≤ j → s j = N1 j) n 0 N1 (by omega) ⟨fun x y hx => absurd hx (by omega), fun _ _ => rfl⟩
      (fun f s hI => pk_le n n (fun _ => h s H' o hH ⟨(hI.2 84 (by omega)).trans h84', q_tbI (fun x y hx hy => hI.1 x y hx hy), fun j h1 h2 => (hI.2 j h1).trans (hz j h2), fun j h1 h2 => (hI.2 j (by omega)).trans (hoo j h1 h2)⟩) (fun z => absurd z (by omega))) (fun f i s hi hI hk => pk_le n i (fun z => absurd z (by omega)) (fun _ => ?_))
    refine q_loop (fun K f j s => wp_X10_loadDual_L34 K (nI n) (nI i) o f (nI j) s) (fun j s => (∀ x y, x < i → y < n → s (6 * x + y) = nI (qn_dv n t x y)) ∧ (∀ y, y < j → s (6 * i + y) = nI (qn_dv n t i y)) ∧ ∀ j, 36 ≤ j → s j = N1 j) n 0 s (by omega) ⟨hI.1, fun y hy => absurd hy (by omega), hI.2⟩
      (fun f s hJ => pk_le n n (fun _ => nm_r (nI_1 i) (hk s ⟨fun x y hx hy => ?_, hJ.2.2⟩)) (fun z => absurd z (by omega))) (fun f j s hj hJ hk2 => pk_le n j (fun z => absurd z (by omega)) (fun _ => ⟨pk_in (6 * i + j) 36 (by omega) (hx := q_ix i j), pk_in (6 * i + j) 88 (by omega) (hx := q_ix i j), nm_r (e' := upd s (6 * i + j) (nI (qn_dv n t i j))) (by rw [pk_cl (6 * i + j) (q_ix i j), q_qt ht hq (hinj j hj) hi hj]) (nm_r (nI_1 j) (hk2 _ ⟨fun x y hx hy => ?_, fun y hy => ?_, fun l hl => ?_⟩))⟩))
    · by_cases e : x = i
      · rw [e]; exact hJ.2.1 y hy
      · exact hJ.1 x y (by omega) hy
    · rw [pk_un (by omega)]; exact hJ.1 x y hx hy
    · by_cases e : y = j
      · rw [e, pk_us]
      · rw [pk_un (by omega)]; exact hJ.2.1 y (by omega)
    · rw [pk_un (by omega)]; exact hJ.2.2 l hl
  · exact absurd (hinj y hy) hni
-- conjugation, in the reference
theorem q_i3 (x y : Nat) : (3 : Int32) * nI x + nI y = nI (3 * x + y) := by rw [show (3 : Int32) = nI 3 from rfl, pk_mul, nI_add]
theorem q_un3 : ∀ k, k < 6 → ∀ j, j < 3 → qn_un 3 k j = qn_pN (3 * k + j) := by decide +kernel
def qn_bk (x y i : Nat) : Nat := fa_first (fun b => qn_im y b == qn_im x (qn_im y i)) 3
theorem q_bk3 : ∀ x, x < 6 → ∀ y, y < 6 → ∀ i, i < 3 → qn_bk x y i < 3 := by decide +kernel
theorem q_cjr : ∀ x, x < 6 → ∀ y, y < 6 → qn_rk 3 (qn_bk x y) 3 = qn_cj x y := by decide +kernel
theorem s_three {K : (Nat → Int32) → (Nat → Int32) → Prop} {o th : Nat → Int32} (h : ∀ o' th', (∀ j, j < 18 → th' j = nI (qn_pN j)) → K o' th') : ∃ f, wp_X10_loadConjugation_L8 K f 0 o th := by
  refine pk_loop (σ := (Nat → Int32) × (Nat → Int32)) (fun f i s => wp_X10_loadConjugation_L8 K f (nI i) s.1 s.2) (fun i s => ∀ j, j < 3 * i → s.2 j = nI (qn_pN j)) 6 0 (o, th) (by omega) (fun j hj => absurd hj (by omega)) (fun f s hI => pk_le 6 6 (fun _ => h s.1 s.2 hI) (fun z => absurd z (by omega))) (fun f k s hk hI hk2 => pk_le 6 k (fun z => absurd z (by omega)) (fun _ => ?_))
  refine s_unrank (n := 3) (k := k) (by omega) (by omega) hk (fun o' ho' => ?_)
  refine q_loop (fun K f i s => wp_X10_loadConjugation_L22 K (nI k) o' f (nI i) s) (fun i s => ∀ j, j < 3 * k + i → s j = nI (qn_pN j)) 3 0 s.2 (by omega) hI (fun f s3 hJ => pk_le 3 3 (fun _ => nm_r (nI_1 k) (hk2 (o', s3) (fun j hj => hJ j (by omega)))) (fun z => absurd z (by omega))) (fun f i s3 hi hJ hk3 => pk_le 3 i (fun z => absurd z (by omega)) (fun _ => ⟨pk_in i 6 (by omega), pk_in (3 * k + i) 18 (by omega) (hx := q_i3 k i), nm_r (e' := upd s3 (3 * k + i) (nI (qn_pN (3 * k + i)))) (by rw [pk_cl (3 * k + i) (q_i3 k i), pk_cl i, ho' i hi, q_un3 k hk i hi]) (nm_r (nI_1 i) (hk3 _ (fun j hj => ?_)))⟩))
  by_cases e : j = 3 * k + i
  · rw [e, pk_us]
  · rw [pk_un e]; exact hJ j (by omega)
theorem s_cjCell {K : (Nat → Int32) → Prop} {th row : Nat → Int32} {x y : Nat} (hx : x < 6) (hy : y < 6) (hth : ∀ j, j < 18 → th j = nI (qn_pN j)) (h : ∀ r', (∀ i, i < 3 → r' i = nI (qn_bk x y i)) → K r') : ∃ f, wp_X10_loadConjugation_L73 K (nI x) (nI y) th f 0 row := by
  refine pk_loop (fun f i s => wp_X10_loadConjugation_L73 K (nI x) (nI y) th f (nI i) s) (fun i s => ∀ j, j < i → s j = nI (qn_bk x y j)) 3 0 row (by omega) (fun j hj => absurd hj (by omega)) (fun f s hI => pk_le 3 3 (fun _ => h s hI) (fun z => absurd z (by omega))) (fun f i s hi hI hk => pk_le 3 i (fun z => absurd z (by omega)) (fun _ => ?_))
  have e1 : th ((3 : Int32) * nI y + nI i).toNatClampNeg = nI (qn_im y i) := by
    rw [pk_cl (3 * y + i) (q_i3 y i)]
    exact hth _ (by omega)
  have b1 := q_im3 hy hi
  have e2 : (3 : Int32) * nI x + th ((3 : Int32) * nI y + nI i).toNatClampNeg = nI (3 * x + qn_im y i) := by
    rw [e1]
    exact q_i3 x _
  refine ⟨pk_in (3 * y + i) 18 (by omega) (hx := q_i3 y i), pk_in (3 * x + qn_im y i) 18 (by omega) (hx := e2), nm_r (e' := nI (qn_im x (qn_im y i))) (by rw [pk_cl (3 * x + qn_im y i) e2]; exact hth _ (by omega)) ?_⟩
  have hb := q_bk3 x hx y hy i hi
  have b2 := q_im3 hx b1
  refine q_loop (σ := Unit) (fun K f j _ => wp_X10_loadConjugation_L102 K (nI y) (nI (qn_im x (qn_im y i))) th f (nI j)) (fun _ _ => True) (qn_bk x y i) 0 () (by omega) trivial (fun f _ _ => ⟨pk_in (3 * y + qn_bk x y i) 18 (by omega) (hx := q_i3 y _), ?_⟩) (fun f j _ hj _ hk3 => ⟨pk_in (3 * y + j) 18 (by omega) (hx := q_i3 y j), ?_⟩)
  · have hy2 : qn_im y (qn_bk x y i) = qn_im x (qn_im y i) := eq_of_beq (fa_first_yes (fun b => qn_im y b == qn_im x (qn_im y i)) 3 hb)
    have e3 : th ((3 : Int32) * nI y + nI (qn_bk x y i)).toNatClampNeg = nI (qn_im x (qn_im y i)) := by
      rw [pk_cl (3 * y + qn_bk x y i) (q_i3 y _), ← hy2]
      exact hth _ (by omega)
    refine ⟨fun _ => ⟨pk_in i 6 (by omega), nm_r (by rw [pk_cl i]) (nm_r (nI_1 i) (hk _ (fun j hj => ?_)))⟩, fun z => absurd e3 z⟩
    by_cases e : j = i
    · rw [e, pk_us]
    · rw [pk_un e]; exact hI j (by omega)
  · have hne : qn_im y j ≠ qn_im x (qn_im y i) := ne_of_beq_false (fa_first_no (fun b => qn_im y b == qn_im x (qn_im y i)) 3 j hj)
    have e3 : th ((3 : Int32) * nI y + nI j).toNatClampNeg = nI (qn_im y j) := by
      rw [pk_cl (3 * y + j) (q_i3 y j)]
      exact hth _ (by omega)
    have b3 := q_im3 hy (show j < 3 by omega)
    rw [e3]
    exact pk_eq (qn_im y j) (qn_im x (qn_im y i)) (fun e => absurd e hne) (fun _ => nm_r (nI_1 j) (hk3 () trivial)) (ha := by omega) (hb := by omega)
theorem s_cjAll {K : (Nat → Int32) → (Nat → Int32) → Prop} {th N row : Nat → Int32} (hth : ∀ j, j < 18 → th j = nI (qn_pN j)) (h : ∀ N' r', (∀ x y, x < 6 → y < 6 → N' (6 * x + y) = nI (qn_cj x y)) → (∀ j, 36 ≤ j → N' j = N j) → K N' r') : ∃ f, wp_X10_loadConjugation_L57 K th f 0 N row := by
  refine pk_loop (σ := (Nat → Int32) × (Nat → Int32)) (fun f i s => wp_X10_loadConjugation_L57 K th f (nI i) s.1 s.2) (fun i s => (∀ x y, x < i → y < 6 → s.1 (6 * x + y) = nI (qn_cj x y)) ∧ ∀ j, 36 ≤ j → s.1 j = N j) 6 0 (N, row) (by omega) ⟨fun x y hx => absurd hx (by omega), fun _ _ => rfl⟩
    (fun f s hI => pk_le 6 6 (fun _ => h s.1 s.2 hI.1 hI.2) (fun z => absurd z (by omega))) (fun f i s hi hI hk => pk_le 6 i (fun z => absurd z (by omega)) (fun _ => ?_))
  refine q_loop (σ := (Nat → Int32) × (Nat → Int32)) (fun K f j s => wp_X10_loadConjugation_L65 K (nI i) th f (nI j) s.1 s.2) (fun j s => (∀ x y, x < i → y < 6 → s.1 (6 * x + y) = nI (qn_cj x y)) ∧ (∀ y, y < j → s.1 (6 * i + y) = nI (qn_cj i y)) ∧ ∀ j, 36 ≤ j → s.1 j = N j) 6 0 s (by omega) ⟨hI.1, fun y hy => absurd hy (by omega), hI.2⟩
    (fun f s hJ => pk_le 6 6 (fun _ => nm_r (nI_1 i) (hk s ⟨fun x y hx hy => ?_, hJ.2.2⟩)) (fun z => absurd z (by omega))) (fun f j s hj hJ hk2 => pk_le 6 j (fun z => absurd z (by omega)) (fun _ => s_cjCell hi hj hth (fun r' hr' => s_rank (n := 3) (r := qn_bk i j) (by omega) (fun q hq => Nat.lt_trans (q_bk3 i hi j hj q hq) (by decide)) hr' ⟨pk_in (6 * i + j) 88 (by omega) (hx := q_ix i j), nm_r (e' := upd s.1 (6 * i + j) (nI (qn_cj i j))) (by rw [pk_cl (6 * i + j) (q_ix i j), q_cjr i hi j hj]) (nm_r (nI_1 j) (hk2 (_, r') ⟨fun x y hx hy => ?_, fun y hy => ?_, fun l hl => ?_⟩))⟩)))
  · by_cases e : x = i
    · rw [e]; exact hJ.2.1 y hy
    · exact hJ.1 x y (by omega) hy
  · show upd s.1 (6 * i + j) (nI (qn_cj i j)) (6 * x + y) = _
    rw [pk_un (by omega)]; exact hJ.1 x y hx hy
  · show upd s.1 (6 * i + j) (nI (qn_cj i j)) (6 * i + y) = _
    by_cases e : y = j
    · rw [e, pk_us]
    · rw [pk_un (by omega)]; exact hJ.2.1 y (by omega)
  · show upd s.1 (6 * i + j) (nI (qn_cj i j)) l = _
    rw [pk_un (by omega)]; exact hJ.2.2 l hl
theorem s_mConj {post : Int32 → Int32 → (Nat → Int32) → (Nat → Int32) → (Nat → Int32) → (Nat → Int32) → (Nat → Int32) → Prop} {c : Nat} {N H o row th : Nat → Int32} (hc : c ≤ 5) (h : ∀ N' H' o r th, qn_Hst c H N H' → qn_Ld 6 qn_cj N N' → post 6 (nI (qn_nx c)) N' H' o r th) : wp_X10_loadConjugation post (nI c) N H o row th :=
  s_loads hc (fun N1 H' hH h84 hz ho => s_three (fun o' th' hth => s_cjAll hth (fun N' r' h1 h2 => h N' H' o' r' th' hH ⟨(h2 84 (by omega)).trans h84, q_tbI h1, fun j q1 q2 => (h2 j q1).trans (hz j q2), fun j q1 q2 => (h2 j (by omega)).trans (ho j q1 q2)⟩)))
