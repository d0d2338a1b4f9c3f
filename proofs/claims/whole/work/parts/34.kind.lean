def qn_iv (n : Nat) (t : Nat → Nat → Nat) : Nat := fa_first (fun x => decide (t x x ≠ x)) n
def qn_ia (n : Nat) (t : Nat → Nat → Nat) : Int32 := if qn_iv n t < n then nI (qn_iv n t) else (-4)
theorem q_iv1 {n : Nat} {t : Nat → Nat → Nat} (h : qn_iv n t < n) : t (qn_iv n t) (qn_iv n t) ≠ qn_iv n t := of_decide_eq_true (fa_first_yes (fun x => decide (t x x ≠ x)) n h)
theorem q_iv0 {n i : Nat} {t : Nat → Nat → Nat} (h : i < qn_iv n t) : t i i = i := Decidable.not_not.mp (of_decide_eq_false (fa_first_no (fun x => decide (t x x ≠ x)) n i h))
theorem s_unidem {post : Int32 → Prop} {n : Nat} {t : Nat → Nat → Nat} {a : Nat → Int32} (hn : n ≤ 6) (ht : ∀ x y, x < n → y < n → t x y < n) (hp : qn_tb n 0 t a) (h : post (qn_ia n t)) : wp_X5_firstUnidempotent post (nI n) a := by
  have hle : qn_iv n t ≤ n := fa_first_le _ _
  refine pk_loop (σ := Unit) (fun f i _ => wp_X5_firstUnidempotent_L2 post (post (-4)) (nI n) a f (nI i)) (fun _ _ => True) (qn_iv n t) 0 () (by omega) trivial (fun f _ _ => ?_) (fun f i _ hi _ hk => ?_)
  · refine pk_le n (qn_iv n t) (fun z => ?_) (fun z => s_product hn hp z z ?_)
    · rwa [qn_ia, if_neg (by omega)] at h
    · have hy := q_iv1 z
      have b := ht _ _ z z
      refine pk_eq (t (qn_iv n t) (qn_iv n t)) (qn_iv n t) (fun e => absurd e hy) (fun _ => ?_) (ha := by omega) (hb := by omega)
      rwa [qn_ia, if_pos z] at h
  · have e : t i i = i := q_iv0 hi
    refine pk_le n i (fun z => absurd z (by omega)) (fun z => s_product hn hp z z (pk_eq (t i i) i (fun _ => nm_r (nI_1 i) (hk () trivial)) (fun q => absurd e q) (ha := by omega) (hb := by omega)))
theorem s_mIdem {post : Int32 → Prop} {n : Nat} {t : Nat → Nat → Nat} {N : Nat → Int32} (hn : n ≤ 6) (ht : ∀ x y, x < n → y < n → t x y < n) (h84 : N 84 = nI n) (hp : qn_tb n 0 t N) (h : post (qn_ia n t)) : wp_X10_idempotencyViolation post N := by
  have hle : qn_iv n t ≤ n := fa_first_le _ _
  have hJ : wp_X10_idempotencyViolation_J29 post (nI (qn_iv n t)) N := by
    refine ⟨pk_in 84 88 (by omega), ?_⟩
    rw [q84, h84]
    refine pk_le n (qn_iv n t) (fun z => ?_) (fun z => ?_)
    · rwa [qn_ia, if_neg (by omega)] at h
    · rwa [qn_ia, if_pos z] at h
  refine pk_loop (σ := Unit) (fun f i _ => wp_X10_idempotencyViolation_L2 (fun x => wp_X10_idempotencyViolation_J29 post x N) N f (nI i)) (fun _ _ => True) (qn_iv n t) 0 () (by omega) trivial (fun f _ _ => ⟨pk_in 84 88 (by omega), ?_⟩) (fun f i _ hi _ hk => ⟨pk_in 84 88 (by omega), ?_⟩)
  · rw [q84, h84]
    refine pk_le n (qn_iv n t) (fun z => hJ) (fun z => s_of hn hp z z ?_)
    have hy := q_iv1 z
    have b := ht _ _ z z
    exact (pk_eq (t (qn_iv n t) (qn_iv n t)) (qn_iv n t) (fun e => absurd e hy) (fun _ => hJ) (ha := by omega) (hb := by omega)) |> fun r => ⟨r.2, r.1⟩
  · rw [q84, h84]
    have e : t i i = i := q_iv0 hi
    refine pk_le n i (fun z => absurd z (by omega)) (fun z => s_of hn hp z z ((pk_eq (t i i) i (fun _ => nm_r (nI_1 i) (hk () trivial)) (fun q => absurd e q) (ha := by omega) (hb := by omega)) |> fun r => ⟨r.2, r.1⟩))
-- kind
def qn_kn (n : Nat) (t : Nat → Nat → Nat) (r : Int32) : Prop := ((¬ ∀ y, y < n → qn_inj n t y) ∧ r = 0) ∨ ((∀ y, y < n → qn_inj n t y) ∧ ∃ d, qn_tv n (qn_lw t) d ∧ ((d ≠ (-4) ∧ r = 0) ∨ (d = (-4) ∧ r = if qn_ia n t = (-4) then 2 else 1)))
theorem q_kn1 {n : Nat} {t : Nat → Nat → Nat} {r r' : Int32} (h : qn_kn n t r) (h2 : qn_kn n t r') : r = r' := by
  rcases h with ⟨a, e⟩ | ⟨a, d, hd, e⟩
  · rcases h2 with ⟨a2, e2⟩ | ⟨a2, d2, hd2, e2⟩
    · rw [e, e2]
    · exact absurd a2 a
  · rcases h2 with ⟨a2, e2⟩ | ⟨a2, d2, hd2, e2⟩
    · exact absurd a a2
    · obtain rfl := q_tv1 hd hd2
      rcases e with ⟨e1, e⟩ | ⟨e1, e⟩
      · rcases e2 with ⟨e3, e2⟩ | ⟨e3, e2⟩
        · rw [e, e2]
        · exact absurd e3 e1
      · rcases e2 with ⟨e3, e2⟩ | ⟨e3, e2⟩
        · exact absurd e1 e3
        · rw [e, e2]
theorem s_xKind {post : Int32 → Prop} {n : Nat} {t : Nat → Nat → Nat} {b : Int32} {a : Nat → Int32} (hn : n ≤ 6) (ht : ∀ x y, x < n → y < n → t x y < n) (hb : qn_IsBad n t b) (hp : qn_tb n 0 t a) (h : ∀ r, qn_kn n t r → post r) : wp_X9_kind post (nI n) b a := by
  rcases q_badI hn hb with ⟨rfl, hi⟩ | ⟨hne, hni⟩
  · refine s_invT ⟨fun z => absurd z (by decide), fun _ => s_undist hn ht hp (fun r hr => ⟨fun e => s_unidem hn ht hp ⟨fun e2 => ?_, fun e2 => ?_⟩, fun e => ?_⟩)⟩
    · exact h 1 (Or.inr ⟨hi, r, hr, Or.inr ⟨e, by rw [if_neg e2]⟩⟩)
    · exact h 2 (Or.inr ⟨hi, r, hr, Or.inr ⟨e, by rw [if_pos e2]⟩⟩)
    · exact h 0 (Or.inr ⟨hi, r, hr, Or.inl ⟨e, rfl⟩⟩)
  · exact s_invF hne ⟨fun _ => h 0 (Or.inl ⟨hni, rfl⟩), fun z => absurd rfl z⟩
theorem s_mKind {post : Int32 → (Nat → Int32) → Prop} {n : Nat} {t : Nat → Nat → Nat} {N o : Nat → Int32} (hn : n ≤ 6) (ht : ∀ x y, x < n → y < n → t x y < n) (h84 : N 84 = nI n) (hp : qn_tb n 0 t N) (h : ∀ r o, qn_kn n t r → post r o) : wp_X10_kind post N o := by
  refine s_column hn ht h84 hp (fun b o hb ho => ?_)
  rcases q_badI hn hb with ⟨rfl, hi⟩ | ⟨hne, hni⟩
  · refine ⟨fun z => absurd rfl z, fun _ => s_viol0 hn ht h84 hp (fun r hr => ⟨fun e => s_mIdem hn ht h84 hp ⟨fun e2 => ?_, fun e2 => ?_⟩, fun e => ?_⟩)⟩
    · exact h 1 _ (Or.inr ⟨hi, r, hr, Or.inr ⟨e, by rw [if_neg e2]⟩⟩)
    · exact h 2 _ (Or.inr ⟨hi, r, hr, Or.inr ⟨e, by rw [if_pos e2]⟩⟩)
    · exact h 0 _ (Or.inr ⟨hi, r, hr, Or.inl ⟨e, rfl⟩⟩)
  · exact ⟨fun _ => h 0 _ (Or.inl ⟨hni, rfl⟩), fun z => absurd z hne⟩
