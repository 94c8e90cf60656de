/-! A TEXT AS A LIST: what the reader sees in it -/
def AT (B : Int → Int) (N : Int) : Int → List Int → Prop
  | i, [] => i = N
  | i, c :: l => B i = c ∧ AT B N (i + 1) l
def NK (k : Int) : List Int → Prop
  | [] => True
  | c :: _ => bK c ≠ k
/-- the value of digits -/
def nmL : Int → List Int → Int
  | a, [] => a
  | a, c :: l => nmL (if a * 10 + c - 48 < 1000000 then a * 10 + c - 48 else 1000000) l
def mtL (w : Nat) : Int → List Int → Bool
  | _, [] => true
  | j, c :: l => decide (c = zt_sc w j) && mtL w (j + 1) l
def wsL (w : Nat) (cs : List Int) : Bool := decide ((cs.length : Int) = zt_sl w) && mtL w 0 cs
/-- the digits of a number -/
def dgt (v : Int) : List Int :=
  if v < 10 then [48 + v % 10] else if v < 100 then [48 + v / 10 % 10, 48 + v % 10] else if v < 1000 then [48 + v / 100 % 10, 48 + v / 10 % 10, 48 + v % 10] else if v < 10000 then [48 + v / 1000 % 10, 48 + v / 100 % 10, 48 + v / 10 % 10, 48 + v % 10] else [48 + v / 10000 % 10, 48 + v / 1000 % 10, 48 + v / 100 % 10, 48 + v / 10 % 10, 48 + v % 10]
section TX
variable {B : Int → Int} {N : Int} {lo hi p v : Int}
theorem AT.len : ∀ (l : List Int) (i : Int), AT B N i l → i + l.length = N
  | [], i, h => by
    have h : i = N := h
    rw [List.length_nil, h]
    omega
  | c :: l, i, h => by
    have ih := AT.len l (i + 1) h.2
    rw [List.length_cons]
    omega
theorem AT.app : ∀ (a b : List Int) (i : Int), AT B N i (a ++ b) → AT B N (i + a.length) b
  | [], b, i, h => by
    rw [List.length_nil, show i + ((0 : Nat) : Int) = i by omega]
    exact h
  | c :: a, b, i, h => by
    have ih := AT.app a b (i + 1) h.2
    rw [List.length_cons, show i + ((a.length + 1 : Nat) : Int) = i + 1 + a.length by omega]
    exact ih
theorem AT.hd {c i : Int} {l : List Int} (h : AT B N i (c :: l)) (h0 : 0 ≤ i) : tkK B N i = bK c := by
  have n := AT.len _ _ h
  rw [List.length_cons] at n
  unfold tkK
  rw [if_pos ⟨h0, by omega⟩, h.1]
theorem AT.nl {i : Int} (h : AT B N i []) : tkK B N i = 0 := by
  have h : i = N := h
  unfold tkK
  rw [if_neg (by omega)]
theorem AT.nk {i k : Int} {l : List Int} (hk : k ≠ 0) (h : AT B N i l) (h0 : 0 ≤ i) (hl : NK k l) : tkK B N i ≠ k := by
  cases l with
  | nil => rw [AT.nl h]; exact fun z => hk z.symm
  | cons c l => rw [AT.hd h h0]; exact hl
theorem tkR_run {k : Int} (hk : k ≠ 0) : ∀ (cs : List Int) (m : Nat) (i : Int) (l : List Int), AT B N i (cs ++ l) → 0 ≤ i → (∀ c ∈ cs, bK c = k) → NK k l → cs.length ≤ m → tkR B N k i m = i + cs.length
  | [], m, i, l, h, h0, _, hl, _ => by
    rw [List.length_nil, show i + ((0 : Nat) : Int) = i by omega]
    cases m with
    | zero => rfl
    | succ m => rw [tkR, if_neg (AT.nk hk h h0 hl)]
  | c :: cs, 0, i, l, _, _, _, _, hm => absurd hm (by rw [List.length_cons]; omega)
  | c :: cs, m + 1, i, l, h, h0, ha, hl, hm => by
    rw [List.length_cons] at hm ⊢
    rw [tkR, if_pos (by rw [AT.hd h h0]; exact ha c (List.mem_cons_self ..)), tkR_run hk cs m (i + 1) l h.2 (by omega) (fun x hx => ha x (List.mem_cons_of_mem _ hx)) hl (by omega)]
    omega
/-- a word or a number -/
theorem tok {sp cs l : List Int} {k i : Int} (hk : k = 2 ∨ k = 3) (hs : sp = [] ∨ sp = [32]) (h : AT B N i (sp ++ (cs ++ l))) (h0 : 0 ≤ i) (hc : cs ≠ []) (ha : ∀ c ∈ cs, bK c = k) (hl : NK k l) : tS B N i = i + sp.length ∧ tK B N i = k ∧ tE B N i = i + sp.length + cs.length ∧ AT B N (i + sp.length) (cs ++ l) ∧ AT B N (i + sp.length + cs.length) l := by
  have n := AT.len _ _ h
  rw [List.length_append, List.length_append] at n
  have h2 := AT.app _ _ _ h
  have h3 := AT.app _ _ _ h2
  have e1 : NK 1 (cs ++ l) := by
    cases cs with
    | nil => exact absurd rfl hc
    | cons c cs =>
      have := ha c (List.mem_cons_self ..)
      show bK c ≠ 1
      omega
  have s : tS B N i = i + sp.length := by
    unfold tS
    refine tkR_run (by decide) sp _ i (cs ++ l) h h0 (fun c hc => ?_) e1 (by omega)
    rcases hs with hs | hs
    · rw [hs] at hc; cases hc
    · rw [hs] at hc
      rw [List.mem_singleton.mp hc]
      decide
  have t : tK B N i = k := by
    unfold tK
    rw [s]
    cases cs with
    | nil => exact absurd rfl hc
    | cons c cs => rw [AT.hd h2 (by omega)]; exact ha c (List.mem_cons_self ..)
  refine ⟨s, t, ?_, h2, h3⟩
  unfold tE
  rw [t, if_neg (by omega), if_neg (by omega), s, tkR_run (by omega) cs _ _ l h2 (by omega) ha hl (by omega)]
theorem mt_l {w : Nat} {s : Int} : ∀ (cs : List Int) (j : Int) (l : List Int), AT B N (s + j) (cs ++ l) → mtW B w s j cs.length = mtL w j cs
  | [], j, l, _ => rfl
  | c :: cs, j, l, h => by
    have ih := mt_l (w := w) (s := s) cs (j + 1) l (by rw [← Int.add_assoc]; exact h.2)
    rw [List.length_cons, mtW, mtL, ih, show B (s + j) = c from h.1]
theorem tx_wd {sp cs l : List Int} {i : Int} (hs : sp = [] ∨ sp = [32]) (h : AT B N i (sp ++ (cs ++ l))) (h0 : 0 ≤ i) (hc : cs ≠ []) (ha : ∀ c ∈ cs, bK c = 2) (hl : NK 2 l) : (∀ w, pWb B N w (0, p, i) = wsL w cs) ∧ ∃ i', pX B N (0, p, i) = (0, p, i') ∧ 0 ≤ i' ∧ AT B N i' l := by
  obtain ⟨t1, t2, t3, t4, t5⟩ := tok (Or.inl rfl) hs h h0 hc ha hl
  refine ⟨fun w => ?_, _, rfl, ?_, ?_⟩
  · unfold pWb isW wsL
    have e : tE B N i - tS B N i = cs.length := by omega
    show (decide ((0 : Int) = 0) && (decide (tK B N i = 2) && decide (tE B N i - tS B N i = zt_sl w) && mtW B w (tS B N i) 0 (zt_sl w).toNat)) = _
    rw [t2, e, t1, decide_eq_true (show (0 : Int) = 0 from rfl), decide_eq_true (show (2 : Int) = 2 from rfl), Bool.true_and, Bool.true_and]
    by_cases hz : (cs.length : Int) = zt_sl w
    · rw [show (zt_sl w).toNat = cs.length by omega, mt_l cs 0 l (by rw [Int.add_zero]; exact t4)]
    · rw [decide_eq_false hz, Bool.false_and, Bool.false_and]
  · show 0 ≤ tE B N i
    omega
  · show AT B N (tE B N i) l
    rw [t3]
    exact t5
theorem nm_l : ∀ (cs : List Int) (a i : Int) (l : List Int), AT B N i (cs ++ l) → nmC B a i cs.length = nmL a cs
  | [], a, i, l, _ => rfl
  | c :: cs, a, i, l, h => by
    rw [List.length_cons, nmC, nmL, show B i = c from h.1, nm_l cs _ (i + 1) l h.2]
theorem dg_v (hv : 0 ≤ v ∧ v < 100000) : nmL 0 (dgt v) = v ∧ (∀ c ∈ dgt v, 48 ≤ c ∧ c ≤ 57) ∧ dgt v ≠ [] ∧ (dgt v).length ≤ 5 := by
  unfold dgt
  split
  · refine ⟨?_, ?_, by simp, by simp⟩
    · simp only [nmL]; split <;> omega
    · simp only [List.mem_cons, List.not_mem_nil, or_false]; rintro c rfl; omega
  · split
    · refine ⟨?_, ?_, by simp, by simp⟩
      · simp only [nmL]
        rw [if_pos (by omega), if_pos (by omega)]; omega
      · simp only [List.mem_cons, List.not_mem_nil, or_false]; rintro c (rfl | rfl) <;> omega
    · split
      · refine ⟨?_, ?_, by simp, by simp⟩
        · simp only [nmL]
          rw [if_pos (show (0 : Int) * 10 + (48 + v / 100 % 10) - 48 < 1000000 by omega), if_pos (by omega), if_pos (by omega)]; omega
        · simp only [List.mem_cons, List.not_mem_nil, or_false]; rintro c (rfl | rfl | rfl) <;> omega
      · split
        · refine ⟨?_, ?_, by simp, by simp⟩
          · simp only [nmL]
            rw [if_pos (show (0 : Int) * 10 + (48 + v / 1000 % 10) - 48 < 1000000 by omega), if_pos (by omega), if_pos (by omega), if_pos (by omega)]; omega
          · simp only [List.mem_cons, List.not_mem_nil, or_false]; rintro c (rfl | rfl | rfl | rfl) <;> omega
        · refine ⟨?_, ?_, by simp, by simp⟩
          · simp only [nmL]
            rw [if_pos (show (0 : Int) * 10 + (48 + v / 10000 % 10) - 48 < 1000000 by omega), if_pos (by omega), if_pos (by omega), if_pos (by omega), if_pos (by omega)]; omega
          · simp only [List.mem_cons, List.not_mem_nil, or_false]; rintro c (rfl | rfl | rfl | rfl | rfl) <;> omega
theorem bK3' {c : Int} (h : 48 ≤ c ∧ c ≤ 57) : bK c = 3 := by
  unfold bK
  rw [if_neg (by omega), if_neg (by omega), if_pos h]
theorem tx_nu {l : List Int} {i : Int} (h : AT B N i (32 :: (dgt v ++ l))) (h0 : 0 ≤ i) (hv : 0 ≤ v ∧ v < 100000) (hl : NK 3 l) (hb : lo ≤ v ∧ v ≤ hi) : pPv B N lo hi (0, p, i) = v ∧ ∃ i', pNu B N lo hi (0, p, i) = (0, p, i') ∧ 0 ≤ i' ∧ AT B N i' l := by
  obtain ⟨d1, d2, d3, _⟩ := dg_v hv
  obtain ⟨t1, t2, t3, t4, t5⟩ := tok (sp := [32]) (Or.inr rfl) (Or.inr rfl) h h0 d3 (fun c hc => bK3' (d2 c hc)) hl
  have n : tN B N i = v := by
    unfold tN
    rw [t2, if_pos rfl, show (tE B N i - tS B N i).toNat = (dgt v).length by omega, t1, nm_l _ _ _ _ t4, d1]
  have s : pPs B N lo hi (0, p, i) = (0, p, i) := by
    unfold pPs
    show (if tK B N i = 3 then (if tN B N i < lo ∨ hi < tN B N i then _ else _) else _) = _
    rw [t2, if_pos rfl, n, if_neg (by omega)]
  refine ⟨?_, tE B N i, ?_, by omega, by rw [t3]; exact t5⟩
  · unfold pPv
    rw [s]
    show (if (0 : Int) = 0 then tN B N i else lo) = v
    rw [if_pos rfl, n]
  · unfold pNu
    rw [s]
    rfl
theorem bK2' : ∀ c : Int, 97 ≤ c ∧ c ≤ 122 → bK c = 2 := fun c h => by
  unfold bK
  rw [if_neg (by omega), if_pos h]
/-- a word that is another's -/
theorem tx_wn_no {k : Nat} {cs l : List Int} {i j : Int} {r : Int → Int} (h : AT B N i (32 :: (cs ++ l))) (h0 : 0 ≤ i) (hc : cs ≠ []) (ha : ∀ c ∈ cs, 97 ≤ c ∧ c ≤ 122) (hl : NK 2 l) (hw : wsL (q_big + 1 + k) cs = false) : wn B N k lo hi j (r, (0, p, i)) = (r, (0, p, i)) := by
  have t := (tx_wd (p := p) (sp := [32]) (Or.inr rfl) h h0 hc (fun c hc => bK2' c (ha c hc)) hl).1 (q_big + 1 + k)
  unfold wn
  rw [if_neg (show ¬ pWb B N (q_big + 1 + k) (0, p, i) = true by rw [t, hw]; decide)]
/-- a word and its number -/
theorem tx_wn {k : Nat} {cs l : List Int} {i j : Int} {r : Int → Int} (h : AT B N i (32 :: (cs ++ 32 :: (dgt v ++ l)))) (h0 : 0 ≤ i) (hc : cs ≠ []) (ha : ∀ c ∈ cs, 97 ≤ c ∧ c ≤ 122) (hw : wsL (q_big + 1 + k) cs = true) (hv : 0 ≤ v ∧ v < 100000) (hl : NK 3 l) (hb : lo ≤ v ∧ v ≤ hi) : ∃ i', wn B N k lo hi j (r, (0, p, i)) = (ru r j v, (0, p, i')) ∧ 0 ≤ i' ∧ AT B N i' l := by
  obtain ⟨t, i1, e1, g1, g2⟩ := tx_wd (p := p) (sp := [32]) (Or.inr rfl) h h0 hc (fun c hc => bK2' c (ha c hc)) (show bK 32 ≠ 2 by decide)
  obtain ⟨n1, i2, e2, f1, f2⟩ := tx_nu (p := p) g2 g1 hv hl hb
  refine ⟨i2, ?_, f1, f2⟩
  unfold wn
  rw [if_pos (show pWb B N (q_big + 1 + k) (0, p, i) = true by rw [t, hw])]
  show (ru r j (pPv B N lo hi (pX B N (0, p, i))), pNu B N lo hi (pX B N (0, p, i))) = _
  rw [e1, n1, e2]
end TX
/-! the text of the law -/
def tBlue : List Int := [98, 108, 117, 101]
def tRule : List Int := [114, 117, 108, 101]
def tTrump : List Int := [116, 114, 117, 109, 112]
def tGlow : List Int := [103, 108, 111, 119]
def tFade : List Int := [102, 97, 100, 101]
def tRevive : List Int := [114, 101, 118, 105, 118, 101]
def tLead : List Int := [108, 101, 97, 100]
def tSeed : List Int := [115, 101, 101, 100]
set_option maxRecDepth 20000 in
theorem ws_k : (wsL (q_big + 1 + 0) tBlue = true ∧ wsL (q_big + 1 + 1) tRule = true ∧ wsL (q_big + 1 + 2) tTrump = true ∧ wsL (q_big + 1 + 3) tGlow = true ∧ wsL (q_big + 1 + 4) tFade = true ∧ wsL (q_big + 1 + 5) tRevive = true ∧ wsL (q_big + 1 + 6) tLead = true ∧ wsL (q_big + 1 + 7) tSeed = true) ∧ wsL (q_big + 1 + 2) tLead = false ∧ wsL (q_big + 1 + 5) tLead = false := by decide +kernel
def tTr (T G F rv : Int) : List Int := if T < 0 then [] else 32 :: (tTrump ++ 32 :: (dgt T ++ 32 :: (tGlow ++ 32 :: (dgt G ++ 32 :: (tFade ++ 32 :: (dgt F ++ (if rv = 0 then [] else 32 :: tRevive)))))))
def tTx (R P H q T G F rv L S : Int) : List Int := tBlue ++ 32 :: (dgt R ++ 32 :: (dgt P ++ 32 :: (dgt H ++ 32 :: (tRule ++ 32 :: (dgt q ++ (tTr T G F rv ++ 32 :: (tLead ++ 32 :: (dgt L ++ 32 :: (tSeed ++ 32 :: (dgt S ++ [59]))))))))))
/-- the row that is read -/
def tRow (u : Int → Int) (R P H q T G F rv L S : Int) : Int → Int := ru (ru (if T < 0 then ru (rBg u R P H) 3 q else if rv = 0 then ru (ru (ru (ru (rBg u R P H) 3 q) 4 T) 5 G) 6 F else ru (ru (ru (ru (ru (rBg u R P H) 3 q) 4 T) 5 G) 6 F) 7 1) 8 L) 15 S
section TY
variable {B : Int → Int} {N : Int} {R P H q T G F rv L S : Int} {u : Int → Int}
theorem ha_l {cs : List Int} (h : cs = tBlue ∨ cs = tRule ∨ cs = tTrump ∨ cs = tGlow ∨ cs = tFade ∨ cs = tRevive ∨ cs = tLead ∨ cs = tSeed) : cs ≠ [] ∧ ∀ c ∈ cs, 97 ≤ c ∧ c ≤ 122 := by
  rcases h with rfl | rfl | rfl | rfl | rfl | rfl | rfl | rfl <;> refine ⟨by decide, by decide⟩
theorem tx_zh (h : AT B N 0 (tTx R P H q T G F rv L S)) (hR : 4 ≤ R ∧ R ≤ 13) (hP : 2 ≤ P ∧ P ≤ 4) (hH : 1 ≤ H ∧ H ≤ mH R P) (hq : 0 ≤ q ∧ q ≤ 3) (hT : T ≤ 3) (hG : 0 ≤ G ∧ G ≤ 30) (hF : 0 ≤ F ∧ F ≤ 9) (hL : 0 ≤ L ∧ L < P) (hS : 0 ≤ S ∧ S ≤ 99999) : zh B N u s0 = (tRow u R P H q T G F rv L S, (0, -1, N)) := by
  have hm : mH R P ≤ 13 := by unfold mH; split <;> omega
  obtain ⟨⟨k0, k1, k2, k3, k4, k5, k6, k7⟩, k8, k9⟩ := ws_k
  unfold tTx at h
  have nb : ∀ l, NK 3 (32 :: l) := fun l => by show bK 32 ≠ 3; decide
  have nb2 : ∀ l, NK 2 (32 :: l) := fun l => by show bK 32 ≠ 2; decide
  -- blue
  obtain ⟨a1, i1, a2, a3, a4⟩ := tx_wd (p := -1) (sp := []) (Or.inl rfl) h (Int.le_refl 0) (ha_l (Or.inl rfl)).1 (fun c hc => bK2' c ((ha_l (Or.inl rfl)).2 c hc)) (nb2 _)
  have s1 : sz1 B N s0 = (0, -1, i1) := by
    unfold sz1 pNW s0
    rw [if_pos (by rw [a1]; exact k0), a2]
  obtain ⟨b1, i2, b2, b3, b4⟩ := tx_nu (p := -1) (lo := 4) (hi := 13) a4 a3 (by omega) (nb _) hR
  have eA : szA B N s0 = R := by unfold szA; rw [s1, b1]
  have s2 : sz2 B N s0 = (0, -1, i2) := by unfold sz2; rw [s1, b2]
  obtain ⟨c1, i3, c2, c3, c4⟩ := tx_nu (p := -1) (lo := 2) (hi := 4) b4 b3 (by omega) (nb _) hP
  have eB : szB B N s0 = P := by unfold szB; rw [s2, c1]
  have s3 : sz3 B N s0 = (0, -1, i3) := by unfold sz3; rw [s2, c2]
  obtain ⟨d1, i4, d2, d3, d4⟩ := tx_nu (p := -1) (lo := 1) (hi := mH R P) c4 c3 (by omega) (nb _) hH
  have eC : szC B N s0 = H := by unfold szC; rw [s3, eA, eB, d1]
  have s4 : sz4 B N s0 = (0, -1, i4) := by unfold sz4; rw [s3, eA, eB, d2]
  -- rule
  have nq : NK 3 (tTr T G F rv ++ 32 :: (tLead ++ 32 :: (dgt L ++ 32 :: (tSeed ++ 32 :: (dgt S ++ [59]))))) := by
    unfold tTr
    split
    · exact nb _
    · exact nb _
  obtain ⟨i5, e1, e2, e3⟩ := tx_wn (p := -1) (k := 1) (lo := 0) (hi := 3) (j := 3) (r := rBg u R P H) d4 d3 (ha_l (Or.inr (Or.inl rfl))).1 (ha_l (Or.inr (Or.inl rfl))).2 k1 (by omega) nq hq
  have z1 : zh1 B N u s0 = (ru (rBg u R P H) 3 q, (0, -1, i5)) := by unfold zh1; rw [eA, eB, eC, s4, e1]
  -- trump
  have z2 : ∃ i6, zh2 B N u s0 = (if T < 0 then ru (rBg u R P H) 3 q else if rv = 0 then ru (ru (ru (ru (rBg u R P H) 3 q) 4 T) 5 G) 6 F else ru (ru (ru (ru (ru (rBg u R P H) 3 q) 4 T) 5 G) 6 F) 7 1, (0, -1, i6)) ∧ 0 ≤ i6 ∧ AT B N i6 (32 :: (tLead ++ 32 :: (dgt L ++ 32 :: (tSeed ++ 32 :: (dgt S ++ [59]))))) := by
    unfold zh2 trZ
    rw [z1]
    by_cases ht : T < 0
    · unfold tTr at e3
      rw [if_pos ht] at e3
      have t := (tx_wd (p := -1) (sp := [32]) (Or.inr rfl) e3 e2 (ha_l (cs := tLead) (by simp)).1 (fun c hc => bK2' c ((ha_l (cs := tLead) (by simp)).2 c hc)) (nb2 _)).1 (q_big + 1 + 2)
      refine ⟨i5, ?_, e2, e3⟩
      rw [if_neg (show ¬ pWb B N (q_big + 1 + 2) (0, -1, i5) = true by rw [t, k8]; decide), if_pos ht]
    · unfold tTr at e3
      rw [if_neg ht] at e3
      simp only [List.append_assoc, List.cons_append] at e3
      obtain ⟨t, i6, f1, f2, f3⟩ := tx_wd (p := -1) (sp := [32]) (Or.inr rfl) e3 e2 (ha_l (cs := tTrump) (by simp)).1 (fun c hc => bK2' c ((ha_l (cs := tTrump) (by simp)).2 c hc)) (nb2 _)
      obtain ⟨g1, i7, g2, g3, g4⟩ := tx_nu (p := -1) (lo := 0) (hi := 3) f3 f2 (by omega) (nb _) (by omega)
      obtain ⟨i8, h1, h2, h3⟩ := tx_wn (p := -1) (k := 3) (lo := 0) (hi := 30) (j := 5) (r := ru (ru (rBg u R P H) 3 q) 4 T) g4 g3 (ha_l (cs := tGlow) (by simp)).1 (ha_l (cs := tGlow) (by simp)).2 k3 (by omega) (nb _) hG
      have nr : NK 3 ((if rv = 0 then [] else 32 :: tRevive) ++ 32 :: (tLead ++ 32 :: (dgt L ++ 32 :: (tSeed ++ 32 :: (dgt S ++ [59]))))) := by
        split
        · exact nb _
        · exact nb _
      obtain ⟨i9, j1, j2, j3⟩ := tx_wn (p := -1) (k := 4) (lo := 0) (hi := 9) (j := 6) (r := ru (ru (ru (rBg u R P H) 3 q) 4 T) 5 G) h3 h2 (ha_l (cs := tFade) (by simp)).1 (ha_l (cs := tFade) (by simp)).2 k4 (by omega) nr hF
      rw [if_pos (show pWb B N (q_big + 1 + 2) (0, -1, i5) = true by rw [t, k2]), if_neg ht]
      show ∃ i6, wf B N 5 7 (wn B N 4 0 9 6 (wn B N 3 0 30 5 (ru (ru (rBg u R P H) 3 q) 4 (pPv B N 0 3 (pX B N (0, -1, i5))), pNu B N 0 3 (pX B N (0, -1, i5))))) = _ ∧ _
      rw [f1, g1, g2, h1, j1]
      unfold wf
      by_cases hr : rv = 0
      · rw [if_pos hr] at j3
        have j3 : AT B N i9 (32 :: (tLead ++ 32 :: (dgt L ++ 32 :: (tSeed ++ 32 :: (dgt S ++ [59]))))) := j3
        have t := (tx_wd (p := -1) (sp := [32]) (Or.inr rfl) j3 j2 (ha_l (cs := tLead) (by simp)).1 (fun c hc => bK2' c ((ha_l (cs := tLead) (by simp)).2 c hc)) (nb2 _)).1 (q_big + 1 + 5)
        refine ⟨i9, ?_, j2, j3⟩
        rw [if_neg (show ¬ pWb B N (q_big + 1 + 5) (0, -1, i9) = true by rw [t, k9]; decide), if_pos hr]
      · rw [if_neg hr] at j3
        simp only [List.cons_append] at j3
        obtain ⟨t, ia, m1, m2, m3⟩ := tx_wd (p := -1) (sp := [32]) (Or.inr rfl) j3 j2 (ha_l (cs := tRevive) (by simp)).1 (fun c hc => bK2' c ((ha_l (cs := tRevive) (by simp)).2 c hc)) (nb2 _)
        refine ⟨ia, ?_, m2, m3⟩
        rw [if_pos (show pWb B N (q_big + 1 + 5) (0, -1, i9) = true by rw [t, k5]), if_neg hr]
        show (ru _ 7 1, pX B N (0, -1, i9)) = _
        rw [m1]
  obtain ⟨i6, z2, y2, y3⟩ := z2
  obtain ⟨w2, hw2⟩ : ∃ x, x = (if T < 0 then ru (rBg u R P H) 3 q else if rv = 0 then ru (ru (ru (ru (rBg u R P H) 3 q) 4 T) 5 G) 6 F else ru (ru (ru (ru (ru (rBg u R P H) 3 q) 4 T) 5 G) 6 F) 7 1) := ⟨_, rfl⟩
  rw [← hw2] at z2
  have w1 : w2 1 = P := by
    have := (rBg_v (u := u) (a := R) (b := P) (c := H)).2.1
    rw [hw2]
    split
    · rw [ru_o (by omega), this]
    · split
      · rw [ru_o (by omega), ru_o (by omega), ru_o (by omega), ru_o (by omega), this]
      · rw [ru_o (by omega), ru_o (by omega), ru_o (by omega), ru_o (by omega), ru_o (by omega), this]
  obtain ⟨i7, l1, l2, l3⟩ := tx_wn (p := -1) (k := 6) (lo := 0) (hi := P - 1) (j := 8) (r := w2) y3 y2 (ha_l (cs := tLead) (by simp)).1 (ha_l (cs := tLead) (by simp)).2 k6 (by omega) (nb _) (by omega)
  have z3 : zh3 B N u s0 = (ru w2 8 L, (0, -1, i7)) := by
    unfold zh3
    rw [z2]
    show wn B N 6 0 (w2 1 - 1) 8 (w2, (0, -1, i6)) = _
    rw [w1, l1]
  obtain ⟨i8, o1, o2, o3⟩ := tx_wn (p := -1) (k := 7) (lo := 0) (hi := 99999) (j := 15) (r := ru w2 8 L) l3 l2 (ha_l (cs := tSeed) (by simp)).1 (ha_l (cs := tSeed) (by simp)).2 k7 (by omega) (show bK 59 ≠ 3 by decide) hS
  have z4 : zh4 B N u s0 = (ru (ru w2 8 L) 15 S, (0, -1, i8)) := by
    unfold zh4
    rw [z3, o1]
  -- the end
  have n8 : i8 + 1 = N := o3.2
  have ts : tS B N i8 = i8 := by
    unfold tS
    have := tkR_run (k := 1) (by decide) [] (N - i8).toNat i8 [59] o3 o2 (fun c hc => nomatch hc) (show bK 59 ≠ 1 by decide) (by simp)
    rw [this, List.length_nil]
    omega
  have tk : tK B N i8 = 4 := by
    unfold tK
    rw [ts, AT.hd o3 o2]
    decide
  have te : tE B N i8 = N := by
    unfold tE
    rw [tk, if_neg (by decide), if_pos rfl, ts, n8]
  unfold zh
  rw [z4]
  have e : pNS B N 59 (0, -1, i8) = (0, -1, N) := by
    unfold pNS pSb
    show (if (decide ((0 : Int) = 0) && (decide (tK B N i8 = 4) && decide (B (tS B N i8) = 59))) = true then (0, -1, tE B N i8) else _) = _
    rw [tk, ts, show B i8 = 59 from o3.1, te]
    rfl
  show ((ru (ru w2 8 L) 15 S), pNS B N 59 (0, -1, i8)) = _
  rw [e, hw2]
  rfl
theorem tx_zE (h : AT B N 0 (tTx R P H q T G F rv L S)) (hR : 4 ≤ R ∧ R ≤ 13) (hP : 2 ≤ P ∧ P ≤ 4) (hH : 1 ≤ H ∧ H ≤ mH R P) (hq : 0 ≤ q ∧ q ≤ 3) (hT : T ≤ 3) (hG : 0 ≤ G ∧ G ≤ 30) (hF : 0 ≤ F ∧ F ≤ 9) (hL : 0 ≤ L ∧ L < P) (hS : 0 ≤ S ∧ S ≤ 99999) : zE B N u = (rL (tRow u R P H q T G F rv L S), (0, -1, N)) ∧ kE B N u = 0 := by
  have z := tx_zh (u := u) h hR hP hH hq hT hG hF hL hS
  have e : z0 B N u = (rL (tRow u R P H q T G F rv L S), (0, -1, N)) := by
    unfold z0
    rw [z]
  have n := AT.len _ _ h
  have tk : tK B N N = 0 := (tS_lt (B := B) (N := N) (i := N) (by omega)).2.2.2.mpr (by
    unfold tS
    rw [Int.sub_self]
    rfl)
  unfold zE kE
  rw [e]
  cases N.toNat with
  | zero => exact ⟨rfl, rfl⟩
  | succ m =>
    rw [caZ, kaZ]
    have c : ¬ ((0 : Int) = 0 ∧ ¬ tK B N N = 0) := fun x => x.2 tk
    exact ⟨if_neg c, if_neg c⟩
end TY
