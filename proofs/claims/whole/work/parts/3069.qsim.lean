/-! THE REFERENCE READS as the class' steps say -/
def jA (f : Nat) (s19 : zt_S) : Option (Unit × zt_S) :=
  zt_bd (F_M_isWord (1111 : Int64) s19) fun a20 s21 =>
  zt_ck (zt_in a20) <| if a20 = (0 : Int) then
    zt_bd (F_M_isWord (423 : Int64) s21) fun a22 s23 =>
    zt_ck (zt_in a22) <| if a22 = (0 : Int) then
      F_M_reads_71 (F_M_reads_20 f) (0 : Int) s23
    else
      F_M_reads_71 (F_M_reads_20 f) (25 : Int) s23
  else
    F_M_reads_71 (F_M_reads_20 f) (24 : Int) s21
def jC (g f : Nat) (τ : zt_S) : Option (Unit × zt_S) := zt_bd (F_M_closes_5 g τ) fun _ s => jA f s
def j3 (g f : Nat) (τ : zt_S) : Option (Unit × zt_S) := zt_bd (F_M_settles (3 : Int) τ) fun _ s => jC g f s
def jO (g f : Nat) (τ : zt_S) : Option (Unit × zt_S) :=
  zt_bd (F_M_comparisonRead_0 g τ) fun _ s15 =>
  zt_bd (F_M_isGood s15) fun a16 s17 =>
  zt_ck (zt_in a16) <| if a16 = (0 : Int) then
    some ((), s17)
  else
    j3 zt_N f s17
section QM
variable {B : Int → Int} {N : Int} {σ τ : zt_S} {s : PS} {S C : List Int} {E : List ST} {f g : Nat}
theorem reads_O : F_M_reads_20 (f + 1) 1 τ = jO zt_N f τ := by
  rw [F_M_reads_20, zt_ckI (by decide), if_neg (by decide)]
  unfold F_M_comparisonRead jO j3 jC
  congr 1
  funext a s15
  congr 1
  funext a16 s17
  congr 1
  split
  · rfl
  · unfold F_M_closes
    rw [bd_bd]
    rfl
theorem sth_le (x : Int) : 0 ≤ sth x ∧ sth x ≤ 3 := by
  unfold sth
  repeat' split
  all_goals omega
/-- what may wait in a test -/
def pd (a b : Bool) : List Int := (if a = true then [24] else []) ++ (if b = true then [25] else [])
def aAn (a : Bool) (E : List ST) : List ST := if a = true then (2, 0, 0) :: E else E
/-- a test's ground -/
def GS (S : List Int) : Prop := S = [] ∨ ∃ T, S = 1 :: T
theorem dp_pd {a b : Bool} : dp (pd a b ++ S) = dp S := by
  cases a <;> cases b <;> simp [pd, dp]
theorem GS.top (h : GS S) : S = [] ∨ ∃ x T, S = x :: T ∧ sth x < 1 := by
  rcases h with h | ⟨T, h⟩
  · exact Or.inl h
  · exact Or.inr ⟨1, T, h, by decide⟩
/-- nothing is settled by 'not' -/
theorem em_set3 {a b : Bool} (hs : GS S) (h : CF B N τ (pd a b ++ S) C s) : j3 g f τ = jC g f τ := by
  obtain ⟨n, hn⟩ := zN1
  unfold j3 F_M_settles
  rw [hn, em_stop (by omega) h ?_, zt_bdS]
  cases a <;> cases b
  · rcases hs.top with z | ⟨x, T, z, y⟩
    · left; simp [pd, z]
    · right; exact ⟨x, T, by simp [pd, z], by omega⟩
  · right; exact ⟨25, S, rfl, by decide⟩
  · right; exact ⟨24, S, rfl, by decide⟩
  · right; exact ⟨24, 25 :: S, rfl, by decide⟩
/-- the conjunction is settled -/
theorem em_set2 {a b : Bool} (hs : GS S) (h : CF B N τ (pd a b ++ S) (enc E) s) : ∃ τ', F_M_settles 2 τ = some ((), τ') ∧ CF B N τ' (pd false b ++ S) (enc (aAn a E)) s ∧ FQ3 τ τ' := by
  obtain ⟨n, hn⟩ : ∃ n, zt_N = n + 1 + 1 := ⟨zt_N - 2, by have := zN (m := 2) (by omega); omega⟩
  have tail : ∀ (b : Bool) (τ : zt_S) (C : List Int), CF B N τ (pd false b ++ S) C s → F_M_settles_0 (n + 1) 2 τ = some ((), τ) := by
    intro b τ C h
    refine em_stop (by omega) h ?_
    cases b
    · rcases hs.top with z | ⟨x, T, z, y⟩
      · left; simp [pd, z]
      · right; exact ⟨x, T, by simp [pd, z], by omega⟩
    · right; exact ⟨25, S, rfl, by decide⟩
  unfold F_M_settles
  cases a
  · refine ⟨τ, ?_, h, FQ3.rf⟩
    rw [hn]
    refine em_stop (by omega) h ?_
    cases b
    · rcases hs.top with z | ⟨x, T, z, y⟩
      · left; simp [pd, z]
      · right; exact ⟨x, T, by simp [pd, z], by omega⟩
    · right; exact ⟨25, S, rfl, by decide⟩
  · obtain ⟨τ1, g1, g2, g3⟩ := em_pop (x := 24) (k := 2) (by omega) (by decide) (S := pd false b ++ S) (show CF B N τ (24 :: (pd false b ++ S)) (enc E) s from h)
    refine ⟨τ1, ?_, g2, g3⟩
    rw [hn, g1 (n + 1)]
    exact tail b τ1 _ g2
/-- all is settled -/
theorem em_set1 {a b : Bool} (hs : GS S) (h : CF B N τ (pd a b ++ S) (enc E) s) : ∃ τ', F_M_settles 1 τ = some ((), τ') ∧ CF B N τ' S (enc (aOr b (aAn a E))) s ∧ FQ3 τ τ' := by
  obtain ⟨n, hn⟩ : ∃ n, zt_N = n + 1 + 1 + 1 := ⟨zt_N - 3, by have := zN (m := 3) (by omega); omega⟩
  have k1 : ∀ (n : Nat) (τ : zt_S) (C : List Int), CF B N τ S C s → F_M_settles_0 (n + 1) 1 τ = some ((), τ) := fun n τ C h => em_stop (by omega) h (by
    rcases hs.top with z | ⟨x, T, z, y⟩
    · exact Or.inl z
    · exact Or.inr ⟨x, T, z, y⟩)
  have k2 : ∀ (n : Nat) (b : Bool) (τ : zt_S) (E : List ST), CF B N τ (pd false b ++ S) (enc E) s → ∃ τ', F_M_settles_0 (n + 1 + 1) 1 τ = some ((), τ') ∧ CF B N τ' S (enc (aOr b E)) s ∧ FQ3 τ τ' := by
    intro n b τ E h
    cases b
    · exact ⟨τ, k1 _ τ _ h, h, FQ3.rf⟩
    · obtain ⟨τ1, g1, g2, g3⟩ := em_pop (x := 25) (k := 1) (by omega) (by decide) (S := S) (show CF B N τ (25 :: S) (enc E) s from h)
      exact ⟨τ1, by rw [g1 (n + 1)]; exact k1 n τ1 _ g2, g2, g3⟩
  unfold F_M_settles
  rw [hn]
  cases a
  · exact k2 (n + 1) b τ E h
  · obtain ⟨τ1, g1, g2, g3⟩ := em_pop (x := 24) (k := 1) (by omega) (by decide) (S := pd false b ++ S) (show CF B N τ (24 :: (pd false b ++ S)) (enc E) s from h)
    obtain ⟨τ2, m1, m2, m3⟩ := k2 n b τ1 ((2, 0, 0) :: E) g2
    exact ⟨τ2, by rw [g1 (n + 1 + 1)]; exact m1, m2, g3.tr m3⟩
/-- an operator is put on the stack -/
theorem em_oper {v : Int} {τ1 : zt_S} (hv : v = 24 ∨ v = 25) (h : CF B N τ S C s) (hk : tK B N s.2.2 ≠ 0) : ∃ τ', (zt_ck (0 ≤ (τ.1 163 36) ∧ (τ.1 163 36) < ((200 : Nat) : Int)) <| zt_let (zt_up τ 182 (τ.1 163 36) v) fun s28 => zt_let (zt_up s28 163 36 ((s28.1 163 36) + (1 : Int))) fun s29 => zt_bd (F_M_next s29) fun _ s31 => F_M_reads_20 f 1 s31) = F_M_reads_20 f 1 τ' ∧ CF B N τ' (v :: S) C (pX B N s) ∧ FQ3 τ τ' := by
  obtain ⟨h1, h2, h3, h4, h5, h6, h7, h8, h9, h10⟩ := id h
  have p := h.pos
  have x1 := up_X1 (B := B) p.1 p.2 hk
  have ux := up_X (B := B) p.1 p.2
  have l : ((v :: S).length : Int) = (S.length : Int) + 1 := by simp
  obtain ⟨n, hn⟩ : ∃ n : Int, n = (S.length : Int) := ⟨_, rfl⟩
  have n0 : 0 ≤ n ∧ n < 200 := by omega
  rw [← hn] at h6
  obtain ⟨τ2, g1, g2, g3⟩ := em_nx (τ := zt_up (zt_up τ 182 n v) 163 36 (n + 1)) (h1.l (fun j => by rw [up_o (by omega), up_o (by omega)]) (fun j _ _ => by rw [up_o (by omega), up_o (by omega)]) rfl)
  refine ⟨τ2, ?_, ⟨g2, h2, h3, ?_, EK.ag _ (fun j _ _ => ?_) h5, ?_, ⟨?_, SK.ag _ (fun j j0 j1 => ?_) h7⟩, ?_, by omega, fun y hy => ?_⟩, ((FQ3.up (by omega)).tr (FQ3.up (by omega))).tr g3.q⟩
  · rw [h6, zt_ckI (by omega), zt_letS, up_o (by omega), h6, zt_letS, g1, zt_bdS]
  · rw [g3.1 _ _ (by omega), up_o (by omega), up_o (by omega)]; exact h4
  · rw [g3.1 _ _ (by omega), up_o (by omega), up_o (by omega)]
  · rw [g3.1 _ _ (by omega), up_s, l, hn]
  · rw [g3.1 _ _ (by omega), up_o (by omega), ← hn, up_s]
  · rw [g3.1 _ _ (by omega), up_o (by omega), up_o (by omega)]
  · rw [g3.1 _ _ (by omega), up_o (by omega), up_o (by omega), dp, if_neg (by omega), h8]; omega
  · rcases List.mem_cons.mp hy with e | e
    · rw [e]; unfold zt_in; omega
    · exact h10 y e
/-- no bracket closes -/
theorem em_noclose (h : CF B N τ S C s) (hn : ¬ pSb B N 41 s = true ∨ ¬ (1 : Int) ∈ S) : jC (g + 1) f τ = jA f τ := by
  unfold jC F_M_closes_5 F_M_closes_58
  rw [em_isByte h.1 (by decide), zt_bdS]
  by_cases a : pSb B N 41 s = true
  · have nm : ¬ (1 : Int) ∈ S := by
      rcases hn with z | z
      · exact absurd a z
      · exact z
    rw [if_pos a, zt_ckI (by decide), if_neg (by decide), em_inside h, zt_bdS, if_neg nm, zt_ckI (by decide), if_pos rfl, zt_bdS]
  · rw [if_neg a, zt_ckI (by decide), if_pos rfl, zt_bdS]
/-- a bracket closes -/
theorem em_close {a b : Bool} (h : CF B N τ (pd a b ++ 1 :: S) (enc E) s) (hc : pSb B N 41 s = true) : ∃ τ', jC (g + 1) f τ = j3 g f τ' ∧ CF B N τ' S (enc (aOr b (aAn a E))) (pX B N s) ∧ FQ3 τ τ' := by
  have mem : (1 : Int) ∈ pd a b ++ 1 :: S := by simp
  obtain ⟨τ1, g1, g2, g3⟩ := em_set1 (S := 1 :: S) (Or.inr ⟨S, rfl⟩) h
  obtain ⟨h1, h2, h3, h4, h5, h6, h7, h8, h9, h10⟩ := id g2
  have p := g2.pos
  have k := pSb_k hc
  have x1 := up_X1 (B := B) p.1 p.2 (by omega)
  have l : ((1 :: S : List Int).length : Int) = (S.length : Int) + 1 := by simp
  obtain ⟨τ2, k1, k2, k3⟩ := em_nx (τ := zt_up (zt_up τ1 163 36 (τ1.1 163 36 - 1)) 163 37 (τ1.1 163 37 - 1)) (h1.l (fun j => by rw [up_o (by omega), up_o (by omega)]) (fun j _ _ => by rw [up_o (by omega), up_o (by omega)]) rfl)
  have d8 : dp (1 :: S) = 1 + dp S := by rw [dp, if_pos (Or.inr rfl)]
  refine ⟨τ2, ?_, ⟨k2, h2, h3, ?_, EK.ag _ (fun j _ _ => ?_) h5, ?_, SK.ag _ (fun j j0 j1 => ?_) h7.2, ?_, by omega, fun y hy => h10 y (List.mem_cons_of_mem _ hy)⟩, g3.tr (((FQ3.up (by omega)).tr (FQ3.up (by omega))).tr k3.q)⟩
  · unfold j3 jC
    rw [F_M_closes_5, em_isByte h.1 (by decide), zt_bdS, if_pos hc, zt_ckI (by decide), if_neg (by decide), em_inside h, zt_bdS, if_pos mem, zt_ckI (by decide), if_neg (by decide), g1, zt_bdS, zt_letS, zt_letS, up_o (by omega), k1, zt_bdS, bd_bd]
  · rw [k3.1 _ _ (by omega), up_o (by omega), up_o (by omega)]; exact h4
  · rw [k3.1 _ _ (by omega), up_o (by omega), up_o (by omega)]
  · rw [k3.1 _ _ (by omega), up_o (by omega), up_s, h6, l]; omega
  · rw [k3.1 _ _ (by omega), up_o (by omega), up_o (by omega)]
  · rw [k3.1 _ _ (by omega), up_s, h8, d8]; omega
/-- the end of what is read -/
theorem em_end (h : CF B N τ S C s) (n1 : ¬ isW B N s.2.2 (q_big + 1 + 21) = true) (n2 : ¬ isW B N s.2.2 (q_big + 1 + 22) = true) : jA (f + 1) τ = F_M_reads_124 τ := by
  unfold jA F_M_reads_71 F_M_reads_81
  rw [em_isW (by decide) hW_21.symm h.1 h.2.1, zt_bdS, if_neg n1, zt_ckI (by decide), if_pos rfl, em_isW (by decide) hW_22.symm h.1 h.2.1, zt_bdS, if_neg n2, zt_ckI (by decide), if_pos rfl, zt_ckI (by decide), if_pos rfl, zt_ckI (by decide), if_pos rfl, F_M_reads_20, zt_ckI (by decide), if_pos rfl]
/-- the fault at the end -/
theorem em_bad_end (h : CF B N τ S C s) (hb : (1 : Int) ∈ S ∨ tK B N s.2.2 ≠ 0) : ∃ τ', F_M_reads_124 τ = some ((), τ') ∧ MP B N τ' (pF B N 1 s) ∧ FQ3 τ τ' := by
  have km := kM_v (B := B) h.1.2.1
  obtain ⟨τ1, g1, g2, g3⟩ := em_wrongs (k := 1) h.1 (by decide)
  have fin : F_M_reads_145 τ = some ((), τ1) := by
    unfold F_M_reads_145 F_M_reads_151
    rw [g1, zt_bdS, em_no g2 (pF_ne (by decide)), zt_bdS]
  refine ⟨τ1, ?_, g2, g3.q⟩
  unfold F_M_reads_124
  rw [em_isGood h.1, zt_bdS, if_pos h.2.1, zt_ckI (by decide), if_neg (by decide), em_inside h, zt_bdS]
  by_cases m : (1 : Int) ∈ S
  · rw [if_pos m, zt_ckI (by decide), if_neg (by decide), fin]
  · have k0 : tK B N s.2.2 ≠ 0 := by
      rcases hb with z | z
      · exact absurd z m
      · exact z
    rw [if_neg m, zt_ckI (by decide), if_pos rfl, h.1.2.2.1.2.2.1, zt_ckI km.2.2.2.2, if_neg (fun z => k0 (km.1.mp z)), fin]
/-- read as w says: failing, or back at the ground -/
def SIM (B : Int → Int) (N : Int) (o : Int) (w : QY → QY) : Prop := ∀ (g f : Nat) (τ : zt_S) (S : List Int) (E : List ST) (s : PS), CF B N τ S (enc E) s → dp S = o → N - s.2.2 < (g : Int) → N - s.2.2 < (f : Int) →
  (¬ (w (E, s)).2.1 = 0 → ∃ τ', jO g f τ = some ((), τ') ∧ MP B N τ' (w (E, s)).2 ∧ FQ3 τ τ') ∧
  ((w (E, s)).2.1 = 0 → ∃ g' f' τ', jO g f τ = j3 g' f' τ' ∧ CF B N τ' S (enc (w (E, s)).1) (w (E, s)).2 ∧ N - (w (E, s)).2.2.2 < (g' : Int) ∧ N - (w (E, s)).2.2.2 < (f' : Int) ∧ FQ3 τ τ')
theorem sim_lp {w : Int → QY → QY} {o : Int} (hw : LG N w) (hs : SIM B N o (w o)) (hg : GS S) (ho : dp S = o) : ∀ (m g f : Nat) (a b : Bool) (τ : zt_S) (E : List ST) (s : PS), CF B N τ (pd a b ++ S) (enc E) s → 200 ≤ (m : Int) + s.2.2 → N - s.2.2 < (g : Int) → N - s.2.2 < (f : Int) →
    (¬ (lpQ B N w o m b (aAn a E, s)).2.1 = 0 → ∃ τ', j3 g f τ = some ((), τ') ∧ MP B N τ' (lpQ B N w o m b (aAn a E, s)).2 ∧ FQ3 τ τ') ∧
    ((lpQ B N w o m b (aAn a E, s)).2.1 = 0 → ∃ g' f' τ' a' b' E', j3 g f τ = jC g' f' τ' ∧ CF B N τ' (pd a' b' ++ S) (enc E') (lpQ B N w o m b (aAn a E, s)).2 ∧ (lpQ B N w o m b (aAn a E, s)).1 = aOr b' (aAn a' E') ∧ ¬ isW B N (lpQ B N w o m b (aAn a E, s)).2.2.2 (q_big + 1 + 21) = true ∧ ¬ isW B N (lpQ B N w o m b (aAn a E, s)).2.2.2 (q_big + 1 + 22) = true ∧ N - (lpQ B N w o m b (aAn a E, s)).2.2.2 < (g' : Int) ∧ N - (lpQ B N w o m b (aAn a E, s)).2.2.2 < (f' : Int) ∧ FQ3 τ τ') := by
  intro m
  induction m with
  | zero =>
    intro g f a b τ E s h h200 hgf hff
    have p := h.pos
    have n := h.2.2.1
    have ts := tS_lt (B := B) (N := N) (i := s.2.2) p
    have k0 : tK B N s.2.2 = 0 := ts.2.2.2.mpr (by omega)
    have nw : ∀ w, ¬ isW B N s.2.2 w = true := fun w hw => by
      unfold isW at hw
      simp only [Bool.and_eq_true, decide_eq_true_eq] at hw
      omega
    rw [lpQ]
    refine ⟨fun z => absurd h.2.1 z, fun _ => ⟨g, f, τ, a, b, E, em_set3 hg h, h, rfl, nw _, nw _, hgf, hff, FQ3.rf⟩⟩
  | succ m ih =>
    intro g f a b τ E s h h200 hgf hff
    have p := h.pos
    have s0 := h.2.1
    have ux := up_X (B := B) (s := s) p.1 p.2
    rw [em_set3 hg h, lpQ, if_neg (fun q => q s0)]
    dsimp only
    obtain ⟨g, rfl⟩ : ∃ g1, g = g1 + 1 := ⟨g - 1, by omega⟩
    obtain ⟨f, rfl⟩ : ∃ f1, f = f1 + 1 := ⟨f - 1, by omega⟩
    -- behind an operator
    have go : ∀ (v : Int) (a1 b1 : Bool) (τ2 : zt_S) (E1 : List ST), v = 24 ∨ v = 25 → tK B N s.2.2 ≠ 0 → jC (g + 1) (f + 1) τ = F_M_reads_20 (f + 1) 1 τ2 → CF B N τ2 (v :: (pd a1 b1 ++ S)) (enc E1) (pX B N s) → FQ3 τ τ2 →
        (¬ (w o (E1, pX B N s)).2.1 = 0 → ∃ τ', jC (g + 1) (f + 1) τ = some ((), τ') ∧ MP B N τ' (w o (E1, pX B N s)).2 ∧ FQ3 τ τ') ∧
        ((w o (E1, pX B N s)).2.1 = 0 → ∃ g' f' τ', jC (g + 1) (f + 1) τ = j3 g' f' τ' ∧ CF B N τ' (v :: (pd a1 b1 ++ S)) (enc (w o (E1, pX B N s)).1) (w o (E1, pX B N s)).2 ∧ N - (w o (E1, pX B N s)).2.2.2 < (g' : Int) ∧ N - (w o (E1, pX B N s)).2.2.2 < (f' : Int) ∧ FQ3 τ τ') := by
      intro v a1 b1 τ2 E1 hv hk e c fr
      have x1 := up_X1 (B := B) (s := s) p.1 p.2 hk
      have dv : dp (v :: (pd a1 b1 ++ S)) = o := by rw [dp, if_neg (by omega), dp_pd]; omega
      have q := hs zt_N f τ2 _ E1 (pX B N s) c dv (by have := zN (m := 1000) (by omega); have := h.2.2.1; omega) (by omega)
      rw [e, reads_O]
      refine ⟨fun z => ?_, fun z => ?_⟩
      · obtain ⟨τ', q1, q2, q3⟩ := q.1 z
        exact ⟨τ', q1, q2, fr.tr q3⟩
      · obtain ⟨g', f', τ', q1, q2, q3, q4, q5⟩ := q.2 z
        exact ⟨g', f', τ', q1, q2, q3, q4, fr.tr q5⟩
    have nocl : tK B N s.2.2 = 2 → jC (g + 1) (f + 1) τ = jA (f + 1) τ := fun k2 => em_noclose h (Or.inl (fun z => by have := pSb_k z; omega))
    by_cases wa : pWb B N (q_big + 1 + 21) s = true
    · have k2 := (pWb_k wa).2
      have iw : isW B N s.2.2 (q_big + 1 + 21) = true := by
        unfold pWb at wa
        simp only [Bool.and_eq_true] at wa
        exact wa.2
      obtain ⟨τ1, g1, g2, g3⟩ := em_set2 hg h
      obtain ⟨τ2, k1, k2', k3⟩ := em_oper (f := f + 1) (v := 24) (τ1 := τ) (Or.inl rfl) g2 (by omega)
      have e : jC (g + 1) (f + 1) τ = F_M_reads_20 (f + 1) 1 τ2 := by
        rw [nocl k2]
        unfold jA F_M_reads_71 F_M_reads_81
        rw [em_isW (by decide) hW_21.symm h.1 s0, zt_bdS, if_pos iw, zt_ckI (by decide), if_neg (by decide), zt_ckI (by decide), if_neg (by decide), zt_ckI (by decide), if_neg (by decide), em_strength (by decide), zt_bdS, show sth 24 = 2 from rfl, g1, zt_bdS]
        exact k1
      have gg := go 24 false b τ2 (aAn a E) (Or.inl rfl) (by omega) e k2' (g3.tr k3)
      have lg := hw o (aAn a E, pX B N s) (by dsimp only; omega) ux.2
      have x1 := up_X1 (B := B) (s := s) p.1 p.2 (by omega)
      rw [if_pos wa]
      by_cases y : (w o (aAn a E, pX B N s)).2.1 = 0
      · obtain ⟨g', f', τ', q1, q2, q3, q4, q5⟩ := gg.2 y
        dsimp only at lg
        have i := ih g' f' true b τ' (w o (aAn a E, pX B N s)).1 (w o (aAn a E, pX B N s)).2 q2 (by omega) q3 q4
        rw [q1]
        refine ⟨fun z => ?_, fun z => ?_⟩
        · obtain ⟨τ3, r1, r2, r3⟩ := i.1 z
          exact ⟨τ3, r1, r2, q5.tr r3⟩
        · obtain ⟨g3, f3, τ3, a3, b3, E3, r1, r2, r3, r4, r5, r6, r7, r8⟩ := i.2 z
          exact ⟨g3, f3, τ3, a3, b3, E3, r1, r2, r3, r4, r5, r6, r7, q5.tr r8⟩
      · obtain ⟨τ', q1, q2, q3⟩ := gg.1 y
        have ef : lpQ B N w o m b ((2, 0, 0) :: (w o (aAn a E, pX B N s)).1, (w o (aAn a E, pX B N s)).2) = (aOr b ((2, 0, 0) :: (w o (aAn a E, pX B N s)).1), (w o (aAn a E, pX B N s)).2) := by
          cases m with
          | zero => rfl
          | succ m => rw [lpQ, if_pos y]
        rw [ef]
        exact ⟨fun _ => ⟨τ', q1, q2, q3⟩, fun z => absurd z y⟩
    · rw [if_neg wa]
      have ia : ¬ isW B N s.2.2 (q_big + 1 + 21) = true := fun z => wa (by unfold pWb; rw [z, decide_eq_true s0]; rfl)
      by_cases wo : pWb B N (q_big + 1 + 22) s = true
      · have k2 := (pWb_k wo).2
        have iw : isW B N s.2.2 (q_big + 1 + 22) = true := by
          unfold pWb at wo
          simp only [Bool.and_eq_true] at wo
          exact wo.2
        obtain ⟨τ1, g1, g2, g3⟩ := em_set1 hg h
        obtain ⟨τ2, k1, k2', k3⟩ := em_oper (f := f + 1) (v := 25) (τ1 := τ) (Or.inr rfl) g2 (by omega)
        have e : jC (g + 1) (f + 1) τ = F_M_reads_20 (f + 1) 1 τ2 := by
          rw [nocl k2]
          unfold jA F_M_reads_71 F_M_reads_81
          rw [em_isW (by decide) hW_21.symm h.1 s0, zt_bdS, if_neg ia, zt_ckI (by decide), if_pos rfl, em_isW (by decide) hW_22.symm h.1 s0, zt_bdS, if_pos iw, zt_ckI (by decide), if_neg (by decide), zt_ckI (by decide), if_neg (by decide), zt_ckI (by decide), if_neg (by decide), em_strength (by decide), zt_bdS, show sth 25 = 1 from rfl, g1, zt_bdS]
          exact k1
        have gg := go 25 false false τ2 (aOr b (aAn a E)) (Or.inr rfl) (by omega) e k2' (g3.tr k3)
        have lg := hw o (aOr b (aAn a E), pX B N s) (by dsimp only; omega) ux.2
        have x1 := up_X1 (B := B) (s := s) p.1 p.2 (by omega)
        rw [if_pos wo]
        by_cases y : (w o (aOr b (aAn a E), pX B N s)).2.1 = 0
        · obtain ⟨g', f', τ', q1, q2, q3, q4, q5⟩ := gg.2 y
          dsimp only at lg
          have i := ih g' f' false true τ' (w o (aOr b (aAn a E), pX B N s)).1 (w o (aOr b (aAn a E), pX B N s)).2 q2 (by omega) q3 q4
          rw [q1]
          refine ⟨fun z => ?_, fun z => ?_⟩
          · obtain ⟨τ3, r1, r2, r3⟩ := i.1 z
            exact ⟨τ3, r1, r2, q5.tr r3⟩
          · obtain ⟨g3, f3, τ3, a3, b3, E3, r1, r2, r3, r4, r5, r6, r7, r8⟩ := i.2 z
            exact ⟨g3, f3, τ3, a3, b3, E3, r1, r2, r3, r4, r5, r6, r7, q5.tr r8⟩
        · obtain ⟨τ', q1, q2, q3⟩ := gg.1 y
          have ef : lpQ B N w o m true (w o (aOr b (aAn a E), pX B N s)) = (aOr true (w o (aOr b (aAn a E), pX B N s)).1, (w o (aOr b (aAn a E), pX B N s)).2) := by
            cases m with
            | zero => rfl
            | succ m => rw [lpQ, if_pos y]
          rw [ef]
          exact ⟨fun _ => ⟨τ', q1, q2, q3⟩, fun z => absurd z y⟩
      · rw [if_neg wo]
        have io : ¬ isW B N s.2.2 (q_big + 1 + 22) = true := fun z => wo (by unfold pWb; rw [z, decide_eq_true s0]; rfl)
        exact ⟨fun z => absurd s0 z, fun _ => ⟨g + 1, f + 1, τ, a, b, E, rfl, h, rfl, ia, io, hgf, hff, FQ3.rf⟩⟩
theorem j3_fail (h : MP B N τ s) (h0 : ¬ s.1 = 0) (e : F_M_comparisonRead_0 g σ = some ((), τ)) : jO g f σ = some ((), τ) := by
  unfold jO
  rw [e, zt_bdS, em_isGood h, zt_bdS, if_neg h0, zt_ckI (by decide), if_pos rfl]
theorem set3_fuel : ∀ (S : List Int) (f g : Nat) (τ : zt_S) (C : List Int), CF B N τ S C s → S.length < f → S.length < g → F_M_settles_0 f 3 τ = F_M_settles_0 g 3 τ
  | S, 0, _, _, _, _, h1, _ => absurd h1 (Nat.not_lt_zero _)
  | S, _, 0, _, _, _, _, h1 => absurd h1 (Nat.not_lt_zero _)
  | [], f + 1, g + 1, τ, C, h, _, _ => by rw [em_stop (by omega) h (Or.inl rfl), em_stop (by omega) h (Or.inl rfl)]
  | x :: T, f + 1, g + 1, τ, C, h, h1, h2 => by
    by_cases e : x = 23
    · obtain ⟨τ1, g1, g2, g3⟩ := em_pop (x := x) (k := 3) (Or.inl e) (by rw [e]; decide) h
      rw [g1 f, g1 g]
      exact set3_fuel T f g τ1 _ g2 (by simp at h1; omega) (by simp at h2; omega)
    · have sx : sth x < 3 := by
        unfold sth
        rw [if_neg e]
        repeat' split
        all_goals omega
      rw [em_stop (by omega) h (Or.inr ⟨x, T, rfl, sx⟩), em_stop (by omega) h (Or.inr ⟨x, T, rfl, sx⟩)]
theorem sim_fa : ∀ (n : Nat) (o : Int), 0 ≤ o → o ≤ 6 → n ≤ 10 → 7 ≤ (n : Int) + o → SIM B N o (faQ B N n o)
  | 0, o, _, _, _, h2 => by omega
  | n + 1, o, o0, o6, hn, h2 => by
    intro g f τ S E s h hd hgf hff
    have p := h.pos
    have s0 := h.2.1
    have ux := up_X (B := B) (s := s) p.1 p.2
    obtain ⟨g, rfl⟩ : ∃ g1, g = g1 + 1 := ⟨g - 1, by omega⟩
    rw [faQ]
    dsimp only
    by_cases op : isO B N s
    · have hk := isO_k op
      have x1 := up_X1 (B := B) (s := s) p.1 p.2 hk
      by_cases d6 : 6 ≤ o
      · -- too deep
        rw [if_pos ⟨d6, op⟩]
        obtain ⟨τ1, g1, g2, g3⟩ := em_deep (f := g) (x := if isW B N s.2.2 (q_big + 1 + 12) = true then 23 else 1) h (by omega)
        refine ⟨fun _ => ⟨τ1, j3_fail g2 (pF_ne (by decide)) (by rw [em_open h op]; exact g1), g2, g3⟩, fun z => absurd z (pF_ne (by decide))⟩
      · rw [if_neg (fun q => d6 q.1)]
        by_cases wn : isW B N s.2.2 (q_big + 1 + 12) = true
        · -- not
          have pw : pWb B N (q_big + 1 + 12) s = true := by unfold pWb; rw [wn, decide_eq_true s0]; rfl
          obtain ⟨τ1, g1, g2, g3⟩ := em_push (f := g) (x := 23) (Or.inl rfl) h hk (by omega) (by omega)
          have e : jO (g + 1) f τ = jO g f τ1 := by
            unfold jO
            rw [em_open h op, if_pos wn, g1]
          have q := sim_fa n (o + 1) (by omega) (by omega) (by omega) (by omega) g f τ1 (23 :: S) E (pX B N s) g2 (by rw [dp, if_pos (Or.inl rfl)]; omega) (by omega) (by omega)
          rw [if_pos pw, e]
          refine ⟨fun z => ?_, fun z => ?_⟩
          · obtain ⟨τ', q1, q2, q3⟩ := q.1 z
            exact ⟨τ', q1, q2, g3.tr q3⟩
          · obtain ⟨g', f', τ', q1, q2, q3, q4, q5⟩ := q.2 z
            obtain ⟨k, hkN⟩ := zN1
            obtain ⟨k2, hk2⟩ : ∃ k2, k = k2 + 1 := ⟨k - 1, by have := zN (m := 2) (by omega); omega⟩
            obtain ⟨τ2, r1, r2, r3⟩ := em_pop (x := 23) (k := 3) (Or.inl rfl) (by decide) q2
            -- what is settled behind it
            have e2 : j3 g' f' τ' = j3 g' f' τ2 := by
              unfold j3 F_M_settles
              have y1 : F_M_settles_0 zt_N 3 τ' = F_M_settles_0 k 3 τ2 := by rw [hkN, r1 k]
              have y2 : F_M_settles_0 k 3 τ2 = F_M_settles_0 zt_N 3 τ2 := set3_fuel S k zt_N τ2 _ r2 (by have := zN (m := 1000) (by omega); have := r2.len.1; omega) (by have := zN (m := 1000) (by omega); have := r2.len.1; omega)
              rw [y1, y2]
            exact ⟨g', f', τ2, by rw [q1, e2], r2, q3, q4, (g3.tr q5).tr r3⟩
        · -- a bracket
          have hb : tK B N s.2.2 = 4 ∧ B (tS B N s.2.2) = 40 := by
            rcases op with z | z
            · exact absurd z wn
            · exact z
          have npw : ¬ pWb B N (q_big + 1 + 12) s = true := fun z => by
            have := pWb_k z
            omega
          have pb : pSb B N 40 s = true := (pSb_g s0).mpr hb
          obtain ⟨τ1, g1, g2, g3⟩ := em_push (f := g) (x := 1) (Or.inr rfl) h hk (by omega) (by omega)
          have e : jO (g + 1) f τ = jO g f τ1 := by
            unfold jO
            rw [em_open h op, if_neg wn, g1]
          have sf := sim_fa n (o + 1) (by omega) (by omega) (by omega) (by omega)
          have d1 : dp (1 :: S) = o + 1 := by rw [dp, if_pos (Or.inr rfl)]; omega
          have q := sf g f τ1 (1 :: S) E (pX B N s) g2 d1 (by omega) (by omega)
          have lg := fa_LG (B := B) (N := N) n (o + 1) (E, pX B N s) (by dsimp only; omega) ux.2
          rw [if_neg npw, if_pos pb, e]
          unfold tsQ
          by_cases y : (faQ B N n (o + 1) (E, pX B N s)).2.1 = 0
          · obtain ⟨g', f', τ', q1, q2, q3, q4, q5⟩ := q.2 y
            dsimp only at lg
            have i := sim_lp (fa_LG n) sf (S := 1 :: S) (Or.inr ⟨S, rfl⟩) d1 200 g' f' false false τ' (faQ B N n (o + 1) (E, pX B N s)).1 (faQ B N n (o + 1) (E, pX B N s)).2 q2 (by omega) q3 q4
            rw [q1]
            have ey : (aAn false (faQ B N n (o + 1) (E, pX B N s)).1, (faQ B N n (o + 1) (E, pX B N s)).2) = faQ B N n (o + 1) (E, pX B N s) := rfl
            rw [ey] at i
            generalize lpQ B N (faQ B N n) (o + 1) 200 false (faQ B N n (o + 1) (E, pX B N s)) = y2 at i ⊢
            by_cases y3 : y2.2.1 = 0
            · obtain ⟨g3', f3, τ3, a3, b3, E3, r1, r2, r3, r4, r5, r6, r7, r8⟩ := i.2 y3
              obtain ⟨g3', rfl⟩ : ∃ g1, g3' = g1 + 1 := ⟨g3' - 1, by have := r2.pos; omega⟩
              obtain ⟨f3, rfl⟩ : ∃ f1, f3 = f1 + 1 := ⟨f3 - 1, by have := r2.pos; omega⟩
              rw [r1]
              by_cases cl : pSb B N 41 y2.2 = true
              · obtain ⟨τ4, t1, t2, t3⟩ := em_close (g := g3') (f := f3 + 1) r2 cl
                have x2 := up_X1 (B := B) (s := y2.2) r2.pos.1 r2.pos.2 (by have := pSb_k cl; omega)
                have en : pNS B N 41 y2.2 = pX B N y2.2 := if_pos cl
                rw [en]
                refine ⟨fun z => absurd y3 z, fun _ => ⟨g3', f3 + 1, τ4, t1, ?_, by dsimp only; omega, by dsimp only; omega, ((g3.tr q5).tr r8).tr t3⟩⟩
                rw [r3]
                exact t2
              · have en : pNS B N 41 y2.2 = pF B N 1 y2.2 := if_neg cl
                obtain ⟨τ4, t1, t2, t3⟩ := em_bad_end r2 (Or.inl (by simp))
                rw [en, em_noclose r2 (Or.inl cl), em_end r2 r4 r5]
                exact ⟨fun _ => ⟨τ4, t1, t2, ((g3.tr q5).tr r8).tr t3⟩, fun z => absurd z (pF_ne (by decide))⟩
            · obtain ⟨τ3, r1, r2, r3⟩ := i.1 y3
              rw [pNS_f y3]
              exact ⟨fun _ => ⟨τ3, r1, r2, (g3.tr q5).tr r3⟩, fun z => absurd z y3⟩
          · obtain ⟨τ', q1, q2, q3⟩ := q.1 y
            have ef : lpQ B N (faQ B N n) (o + 1) 200 false (faQ B N n (o + 1) (E, pX B N s)) = (aOr false (faQ B N n (o + 1) (E, pX B N s)).1, (faQ B N n (o + 1) (E, pX B N s)).2) := by
              rw [lpQ, if_pos y]
            rw [ef]
            dsimp only
            rw [pNS_f y]
            exact ⟨fun _ => ⟨τ', q1, q2, g3.tr q3⟩, fun z => absurd z y⟩
    · -- a comparison
      have nw : ¬ pWb B N (q_big + 1 + 12) s = true := fun z => op (by
        unfold pWb at z
        simp only [Bool.and_eq_true] at z
        exact Or.inl z.2)
      have nb : ¬ pSb B N 40 s = true := fun z => op (Or.inr (pSb_k z).2)
      rw [if_neg (fun q => op q.2), if_neg nw, if_neg nb]
      obtain ⟨τ1, g1, g2, g3, g4⟩ := em_cmp h
      have e := em_cmp0 (f := g) h op
      have u := up_c (B := B) (s := s) p.1 p.2
      refine ⟨fun z => ⟨τ1, j3_fail g2 z (by rw [e]; exact g1), g2, g3⟩, fun z => ⟨zt_N, f, τ1, ?_, g4 z, ?_, ?_, g3⟩⟩
      · unfold jO
        dsimp only at z
        rw [e, g1, zt_bdS, em_isGood g2, zt_bdS, if_pos z, zt_ckI (by decide), if_neg (by decide)]
      · have := zN (m := 1000) (by omega)
        have := h.2.2.1
        dsimp only
        omega
      · dsimp only; omega
end QM
