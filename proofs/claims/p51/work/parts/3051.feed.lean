/-! feed: bytes on both sides -/
theorem and255 (y : Int32) : (y &&& 255).toInt = y.toInt % 256 := by
  have h1 : (y &&& 255).toBitVec.toNat = y.toBitVec.toNat % 256 := by
    rw [Int32.toBitVec_and, BitVec.toNat_and]
    show y.toBitVec.toNat &&& 255 = _
    exact Nat.and_two_pow_sub_one_eq_mod y.toBitVec.toNat 8
  have h2 : (y &&& 255).toInt = (y &&& 255).toBitVec.toInt := rfl
  have h3 : y.toInt = y.toBitVec.toInt := rfl
  have l := y.toBitVec.isLt
  rw [h2, h3, BitVec.toInt_eq_toNat_cond, BitVec.toInt_eq_toNat_cond, h1]
  split <;> split <;> omega
theorem zt_b_v (x : Int) : zt_b x = (if zt_and x 255 < 128 then zt_and x 255 else zt_and x 255 - 256) ∧ 0 ≤ zt_and x 255 ∧ zt_and x 255 ≤ 255 := by
  have e1 : zt_and x 255 = (Int32.ofInt x).toInt % 256 := and255 (Int32.ofInt x)
  have e2 : zt_b x = (Int32.ofInt x).toInt.bmod 256 := by
    unfold zt_b
    rw [Int8.toInt_toInt32, Int32.toInt_toInt8]
  have m0 := Int.emod_nonneg (Int32.ofInt x).toInt (show (256 : Int) ≠ 0 by decide)
  have m1 := Int.emod_lt_of_pos (Int32.ofInt x).toInt (show (0 : Int) < 256 by decide)
  rw [e1, e2]
  refine ⟨?_, m0, by omega⟩
  rw [Int.bmod_def]
  show (if (Int32.ofInt x).toInt % 256 < (256 + 1) / 2 then (Int32.ofInt x).toInt % 256 else (Int32.ofInt x).toInt % 256 - 256) = _
  split <;> split <;> omega
theorem zt_b_in {x : Int} (h : 0 ≤ x ∧ x < 128) : zt_b x = x := by
  have e := zt_b_v x
  have e1 : zt_and x 255 = x := by
    have : zt_and x 255 = (Int32.ofInt x).toInt % 256 := and255 (Int32.ofInt x)
    rw [this, zt_ti ⟨by omega, by omega⟩]
    omega
  rw [e.1, e1, if_pos h.2]
theorem zt_bb (x : Int) : zt_b (zt_b x) = zt_b x := by
  have e : (Int32.ofInt (zt_b x)) = (Int32.ofInt x).toInt8.toInt32 := by unfold zt_b; exact Int32.ofInt_toInt _
  show (Int32.ofInt (zt_b x)).toInt8.toInt32.toInt = (Int32.ofInt x).toInt8.toInt32.toInt
  rw [e]
  simp
/-- the bytes of a class' buffer stand for those of a reference's -/
def BR (σ τ : zt_S) : Prop := σ.1 0 1 = τ.1 163 9 ∧ (0 ≤ τ.1 163 9 ∧ τ.1 163 9 ≤ 500) ∧ ∀ j, 0 ≤ j → j < τ.1 163 9 → (0 ≤ τ.1 169 j ∧ τ.1 169 j ≤ 255) ∧ σ.1 1 j = (if τ.1 169 j < 128 then τ.1 169 j else τ.1 169 j - 256)
section FE
variable {σ τ : zt_S} {n : Int}
def fdC (σ : zt_S) (v k : Int) : zt_S := zt_up (zt_up σ 1 (σ.1 0 1) (zt_b (zt_shr v k))) 0 1 (σ.1 0 1 + 1)
def fdM (τ : zt_S) (v k : Int) : zt_S := zt_up (zt_up τ 169 (τ.1 163 9) (zt_and (zt_shr v k) 255)) 163 9 (τ.1 163 9 + 1)
theorem fd_st {v k : Int} (h : BR σ τ) (hb : τ.1 163 9 < 500) : BR (fdC σ v k) (fdM τ v k) ∧ (fdM τ v k).1 163 9 = τ.1 163 9 + 1 := by
  obtain ⟨h1, h2, h3⟩ := h
  have e9 : (fdM τ v k).1 163 9 = τ.1 163 9 + 1 := up_s _ _ _ _
  refine ⟨⟨?_, by omega, fun j j0 j1 => ?_⟩, e9⟩
  · rw [e9]
    unfold fdC
    rw [up_s, h1]
  · rw [e9] at j1
    have y1 : (fdM τ v k).1 169 j = (zt_up τ 169 (τ.1 163 9) (zt_and (zt_shr v k) 255)).1 169 j := up_o (Or.inl (by decide))
    have y2 : (fdC σ v k).1 1 j = (zt_up σ 1 (σ.1 0 1) (zt_b (zt_shr v k))).1 1 j := up_o (Or.inl (by decide))
    rw [y1, y2, h1]
    by_cases hj : j = τ.1 163 9
    · rw [hj, up_s, up_s]
      have e := zt_b_v (zt_shr v k)
      exact ⟨⟨e.2.1, e.2.2⟩, e.1⟩
    · rw [up_o (Or.inr hj), up_o (Or.inr hj)]
      exact h3 j j0 (by omega)
theorem fdC_f {v k : Int} {c : Nat} {j : Int} (h : c ≠ 1) (h2 : c ≠ 0 ∨ j ≠ 1) : (fdC σ v k).1 c j = σ.1 c j := by
  unfold fdC
  rw [up_o h2, up_o (Or.inl h)]
theorem fdM_f {v k : Int} {c : Nat} {j : Int} (h : c ≠ 169) (h2 : c ≠ 163 ∨ j ≠ 9) : (fdM τ v k).1 c j = τ.1 c j := by
  unfold fdM
  rw [up_o h2, up_o (Or.inl h)]
def apC (σ : zt_S) (v : Int) : zt_S := fdC (fdC (fdC (fdC σ v 24) v 16) v 8) v 0
def apM (τ : zt_S) (v : Int) : zt_S := fdM (fdM (fdM (fdM τ v 24) v 16) v 8) v 0
theorem ec_ap_st {n : Nat} {v k : Int} (hk : 0 ≤ k ∧ k < 100) (hb : 0 ≤ σ.1 0 1 ∧ σ.1 0 1 < 500) : F_C_append_3 (n + 1) v k σ = F_C_append_3 n v (k + -8) (fdC σ v k) := by
  rw [F_C_append_3, zt_ckI (by unfold zt_in; omega), if_neg (by omega), zt_ckI (by unfold zt_in; omega), if_neg (by omega), zt_ckI (by unfold zt_in; omega), if_pos (by omega), zt_ckI (by omega), zt_letS, zt_letS, up_o (Or.inl (by decide)), zt_bb]
  rfl
theorem ec_ap_end {n : Nat} {v k : Int} (hk : k < 0 ∧ -100 < k) : F_C_append_3 (n + 1) v k σ = some ((), σ) := by
  rw [F_C_append_3, zt_ckI (by unfold zt_in; omega), if_pos hk.1]
theorem em_la_st {n : Nat} {v k : Int} (hk : 0 ≤ k ∧ k < 100) (hb : 0 ≤ τ.1 163 9 ∧ τ.1 163 9 < 500) : F_M_lays_3 (n + 1) v k τ = F_M_lays_3 n v (k + -8) (fdM τ v k) := by
  rw [F_M_lays_3, zt_ckI (by unfold zt_in; omega), if_neg (by omega), zt_ckI (by omega), zt_letS, zt_letS, up_o (Or.inl (by decide))]
  rfl
theorem em_la_end {n : Nat} {v k : Int} (hk : k < 0 ∧ -100 < k) : F_M_lays_3 (n + 1) v k τ = some ((), τ) := by
  rw [F_M_lays_3, zt_ckI (by unfold zt_in; omega), if_pos hk.1]
theorem zN5 : ∃ n, zt_N = n + 1 + 1 + 1 + 1 + 1 := ⟨zt_N - 5, by have := zN (m := 5) (by omega); omega⟩
theorem fd_word {v : Int} (h : BR σ τ) (hb : τ.1 163 9 + 4 ≤ 500) : F_C_append v σ = some ((), apC σ v) ∧ F_M_lays v τ = some ((), apM τ v) ∧ BR (apC σ v) (apM τ v) ∧ (apM τ v).1 163 9 = τ.1 163 9 + 4 := by
  have b0 := h.2.1
  obtain ⟨r1, e1⟩ := fd_st (v := v) (k := 24) h (by omega)
  obtain ⟨r2, e2⟩ := fd_st (v := v) (k := 16) r1 (by omega)
  obtain ⟨r3, e3⟩ := fd_st (v := v) (k := 8) r2 (by omega)
  obtain ⟨r4, e4⟩ := fd_st (v := v) (k := 0) r3 (by omega)
  obtain ⟨n, hn⟩ := zN5
  have c0 := h.1
  have c1 := r1.1
  have c2 := r2.1
  have c3 := r3.1
  refine ⟨?_, ?_, r4, by unfold apM; omega⟩
  · unfold F_C_append
    rw [hn, ec_ap_st (by omega) (by omega), show (24 : Int) + -8 = 16 from rfl, ec_ap_st (by omega) (by omega), show (16 : Int) + -8 = 8 from rfl, ec_ap_st (by omega) (by omega), show (8 : Int) + -8 = 0 from rfl, ec_ap_st (by omega) (by omega), ec_ap_end (by omega)]
    rfl
  · unfold F_M_lays
    rw [hn, em_la_st (by omega) (by omega), show (24 : Int) + -8 = 16 from rfl, em_la_st (by omega) (by omega), show (16 : Int) + -8 = 8 from rfl, em_la_st (by omega) (by omega), show (8 : Int) + -8 = 0 from rfl, em_la_st (by omega) (by omega), em_la_end (by omega)]
    rfl
theorem apC_f {v : Int} {c : Nat} {j : Int} (h : c ≠ 1) (h2 : c ≠ 0 ∨ j ≠ 1) : (apC σ v).1 c j = σ.1 c j := by
  unfold apC
  rw [fdC_f h h2, fdC_f h h2, fdC_f h h2, fdC_f h h2]
theorem apM_f {v : Int} {c : Nat} {j : Int} (h : c ≠ 169) (h2 : c ≠ 163 ∨ j ≠ 9) : (apM τ v).1 c j = τ.1 c j := by
  unfold apM
  rw [fdM_f h h2, fdM_f h h2, fdM_f h h2, fdM_f h h2]
theorem BR.l {σ' τ' : zt_S} (h : BR σ τ) (e1 : σ'.1 0 1 = σ.1 0 1) (e2 : ∀ j, σ'.1 1 j = σ.1 1 j) (e3 : τ'.1 163 9 = τ.1 163 9) (e4 : ∀ j, τ'.1 169 j = τ.1 169 j) : BR σ' τ' := by
  have f2 : σ'.1 1 = σ.1 1 := funext e2
  have f4 : τ'.1 169 = τ.1 169 := funext e4
  unfold BR
  rw [e1, f2, e3, f4]
  exact h
/-- all but the buffer stands -/
theorem Inv.bf (h : Inv n σ) (e1 : ∀ c j, c ≠ 1 → c ≠ 169 → (c ≠ 0 ∨ j ≠ 1) → (c ≠ 163 ∨ (j ≠ 0 ∧ j ≠ 9)) → τ.1 c j = σ.1 c j) (e2 : τ.2 = σ.2) (hb : BF τ) : Inv (n + 1) τ := by
  obtain ⟨hc, h2, h3, h4, h5, h6, h7, h8, h9⟩ := id h
  have f3 : τ.1 164 = σ.1 164 := funext fun j => e1 _ _ (by omega) (by omega) (by omega) (by omega)
  have f2 : ∀ c j, τ.2.1 c j = σ.2.1 c j := fun c j => by rw [e2]
  refine ⟨⟨by rw [f3]; exact hc.1, by rw [f3]; exact hc.2.1.ag (fun c j a b => e1 c j (by omega) (by omega) (by omega) (by omega)) (fun c j a b => f2 c j), ?_⟩, by rw [f3]; exact h2.up (by omega), h3.ag (by omega) (fun c j a b => e1 c j (by omega) (by omega) (by omega) (by omega)) (fun c j a b => f2 c j) (e1 _ _ (by omega) (by omega) (by omega) (by omega)) (fun j => e1 _ _ (by omega) (by omega) (by omega) (by omega)) (fun j _ => by rw [f3]), h4.ag (by omega) (fun c j a b => e1 c j (by omega) (by omega) (by omega) (by omega)) (fun c j a b => f2 c j) (e1 _ _ (by omega) (by omega) (by omega) (by omega)) (e1 _ _ (by omega) (by omega) (by omega) (by omega)) (fun j => e1 _ _ (by omega) (by omega) (by omega) (by omega)) (fun j _ => by rw [f3]), hb, h6.ag (e1 _ _ (by omega) (by omega) (by omega) (by omega)) (e1 _ _ (by omega) (by omega) (by omega) (by omega)), h7.ag (fun c j a b => e1 _ _ (by omega) (by omega) (by omega) (by omega)) (e1 _ _ (by omega) (by omega) (by omega) (by omega)) (fun j => e1 _ _ (by omega) (by omega) (by omega) (by omega)), h8.ag (by omega) (fun c j a b => f2 c j), by rw [e2]; omega⟩
  have g := hc.2.2
  unfold SUw at g ⊢
  rw [f3, e1 _ _ (by omega) (by omega) (by omega) (by omega), e1 _ _ (by omega) (by omega) (by omega) (by omega), e1 _ _ (by omega) (by omega) (by omega) (by omega), e1 _ _ (by omega) (by omega) (by omega) (by omega)]
  exact g
theorem oq_feed {a b c d e : Int} (h : Inv n σ) : OQ (n + 1) (F_C_feed a b c d e) (F_M_feed a b c d e) σ := by
  have hb := h.2.2.2.2.1
  have b0 := hb.2.1
  by_cases hz : 500 < σ.1 163 9 + 20
  · refine AP.oq ⟨-1, ?_, ?_, by decide⟩ h
    · unfold F_C_feed
      rw [hb.1, zt_ckI (by unfold zt_in; omega), if_pos hz]
    · unfold F_M_feed
      rw [zt_letS, up_o (by omega), zt_ckI (by unfold zt_in; omega), if_pos hz]
  · -- the class' side is told by the reference's run over the same state; then the reference runs behind the class
    have key : ∀ τ : zt_S, BR σ τ → τ.1 163 9 = σ.1 163 9 → ∃ σ' τ', (F_C_append a σ = some ((), apC σ a) ∧ F_C_append b (apC σ a) = some ((), apC (apC σ a) b) ∧ F_C_append c (apC (apC σ a) b) = some ((), apC (apC (apC σ a) b) c) ∧ F_C_append d (apC (apC (apC σ a) b) c) = some ((), apC (apC (apC (apC σ a) b) c) d) ∧ F_C_append e (apC (apC (apC (apC σ a) b) c) d) = some ((), σ')) ∧ (F_M_lays a τ = some ((), apM τ a) ∧ F_M_lays b (apM τ a) = some ((), apM (apM τ a) b) ∧ F_M_lays c (apM (apM τ a) b) = some ((), apM (apM (apM τ a) b) c) ∧ F_M_lays d (apM (apM (apM τ a) b) c) = some ((), apM (apM (apM (apM τ a) b) c) d) ∧ F_M_lays e (apM (apM (apM (apM τ a) b) c) d) = some ((), τ')) ∧ BR σ' τ' ∧ τ'.1 163 9 = σ.1 163 9 + 20 ∧ σ' = apC (apC (apC (apC (apC σ a) b) c) d) e ∧ τ' = apM (apM (apM (apM (apM τ a) b) c) d) e := by
      intro τ r0 e0
      obtain ⟨x1, y1, r1, e1⟩ := fd_word (v := a) r0 (by omega)
      obtain ⟨x2, y2, r2, e2⟩ := fd_word (v := b) r1 (by omega)
      obtain ⟨x3, y3, r3, e3⟩ := fd_word (v := c) r2 (by omega)
      obtain ⟨x4, y4, r4, e4⟩ := fd_word (v := d) r3 (by omega)
      obtain ⟨x5, y5, r5, e5⟩ := fd_word (v := e) r4 (by omega)
      exact ⟨_, _, ⟨x1, x2, x3, x4, x5⟩, ⟨y1, y2, y3, y4, y5⟩, r5, by omega, rfl, rfl⟩
    obtain ⟨σ', _, ⟨x1, x2, x3, x4, x5⟩, -, -, -, hσ', -⟩ := key σ hb rfl
    have sf : ∀ c j, c ≠ 1 → (c ≠ 0 ∨ j ≠ 1) → σ'.1 c j = σ.1 c j := fun c j a b => by rw [hσ', apC_f a b, apC_f a b, apC_f a b, apC_f a b, apC_f a b]
    obtain ⟨σ'', τ', ⟨_, _, _, _, x6⟩, ⟨y1, y2, y3, y4, y5⟩, r, e9, hs, hτ⟩ := key (zt_up σ' 163 0 0) ((show BR σ σ from hb).l rfl (fun _ => rfl) (by rw [up_o (by omega), sf _ _ (by omega) (by omega)]) (fun j => by rw [up_o (by omega), sf _ _ (by omega) (by omega)])) (by rw [up_o (by omega), sf _ _ (by omega) (by omega)])
    rw [← hσ'] at hs
    subst hs
    have tf : ∀ c j, c ≠ 169 → (c ≠ 163 ∨ (j ≠ 0 ∧ j ≠ 9)) → τ'.1 c j = σ''.1 c j := fun c j a b => by rw [hτ, apM_f a (by omega), apM_f a (by omega), apM_f a (by omega), apM_f a (by omega), apM_f a (by omega), up_o (by omega)]
    refine ⟨σ.1 163 9 + 20, σ'', τ', ?_, ?_, by unfold zt_in; omega, h.bf (fun c j a b d e => by rw [tf c j b e, sf c j a d]) (by rw [hτ, hσ']; rfl) ?_⟩
    · unfold F_C_feed
      rw [hb.1, zt_ckI (by unfold zt_in; omega), if_neg hz, x1, zt_bdS, x2, zt_bdS, x3, zt_bdS, x4, zt_bdS, x5, zt_bdS, show σ''.1 0 1 = σ.1 163 9 + 20 from by rw [r.1, e9]]
    · unfold F_M_feed
      rw [zt_letS, up_o (by omega), sf _ _ (by omega) (by omega), zt_ckI (by unfold zt_in; omega), if_neg hz, y1, zt_bdS, y2, zt_bdS, y3, zt_bdS, y4, zt_bdS, y5, zt_bdS, e9]
    · exact r.l (tf _ _ (by omega) (by omega)) (fun j => tf _ _ (by omega) (by omega)) rfl (fun _ => rfl)
end FE
