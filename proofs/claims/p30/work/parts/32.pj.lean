/-! (of the class alone) -/
section PJ
variable {st : CS} {Z : Nat → Nat}
theorem EW.es (h : EW st Z) (R : Nat → Nat → Int32) (S : Nat → Int32) (X : Nat → Nat → Int64) : EW (ES st R S X) Z := h
theorem fm_mono {g : Nat → List Nat} {i n : Nat} (h : i ≤ n) : ((List.range i).flatMap g).length ≤ ((List.range n).flatMap g).length := by
  induction n with
  | zero => rw [show i = 0 by omega]; exact Nat.le_refl _
  | succ n ih =>
    by_cases e : i = n + 1
    · rw [e]; exact Nat.le_refl _
    · rw [fm_s, List.length_append]
      have := ih (by omega)
      omega
/-- one solution more -/
theorem add_c {p : Nat} (hp : p < 5) {l : List Nat} {R : Nat → Nat → Int32} {S : Nat → Int32} {X : Nat → Nat → Int64} (h : IC st p l (ES st R S X)) (hl : l.length < 100000) {e : Nat} (he : e < 2 ^ 31) : ∃ s', (if ib (nI p) 5 = true then (if (220 : Int32) ≤ S p then f0_solveLast_j79 (ES st R S X) (nI p) (nI e) else (if ib (nI p) 5 = true then (if ib (nI p) 5 = true then (if ib (S p) 220 = true then f0_solveLast_j79 (c_rows_s (ES st R S X) (va_up R p (upd (R p) (S p).toNatClampNeg (nI e)))) (nI p) (nI e) else none) else none) else none)) else none) = some s' ∧ IC st p (l ++ [e]) s' := by
  obtain ⟨R0, S0, X0, h0, h1, h2, h3, h4⟩ := h
  have eR : R = R0 := congrArg c_rows h0
  have eS : S = S0 := congrArg c_size h0
  have eX : X = X0 := congrArg c_exactly h0
  subst eR eS eX
  have key : ∀ R', (∀ j, j ≠ p → R' j = c_rows st j) → (∀ k e', k < 220 → (l ++ [e])[k]? = some e' → R' p k = nI e') → ∃ s', f0_solveLast_j79 (ES st R' S X) (nI p) (nI e) = some s' ∧ IC st p (l ++ [e]) s' := by
    intro R' g1 g2
    have hm := mk_lt e
    refine ⟨ES st R' (upd S p (S p + 1)) (va_up X p (vp_updL (X p) (mk e) (X p (mk e) + 1))), ?_, R', _, _, rfl, ?_, ?_, g2, ?_⟩
    · unfold f0_solveLast_j79
      rw [if_pos (ib_n hp (by omega)), if_pos (ib_n hp (by omega)), if_pos (ib_n hp (by omega)), set_c he, bi1_s, if_pos (ib_n hm (by omega)), if_pos (ib_n hm (by omega)), tn (by omega), tn (by omega), ES_2]
      rfl
    · intro j hj
      exact ⟨g1 j hj, (pk_un hj).trans (h1 j hj).2.1, (va_up_ne _ _ hj).trans (h1 j hj).2.2⟩
    · rw [pk_us, h2, nI_1, List.length_append]
      rfl
    · intro t ht
      rw [va_up_self, cnt_app, cnt_one]
      by_cases q : t = mk e
      · subst q
        rw [pk_uLs, h4 _ hm, lN_1, if_pos rfl]
      · rw [pk_uLn q, h4 _ ht, if_neg (fun z => q z.symm), Nat.add_zero]
  rw [if_pos (ib_n hp (by omega)), h2]
  by_cases q : 220 ≤ l.length
  · rw [if_pos (show (220 : Int32) ≤ nI l.length from nI_le (a := 220) q (by omega))]
    refine key R (fun j hj => (h1 j hj).1) (fun k e' hk hg => h3 k e' hk ?_)
    rw [List.getElem?_append, if_pos (by omega)] at hg
    exact hg
  · rw [if_neg (show ¬ (220 : Int32) ≤ nI l.length from lge 220 (by omega)), if_pos (ib_n hp (by omega)), if_pos (ib_n hp (by omega)), if_pos (ib_n (by omega) (by omega)), tn (by omega), ES_3]
    refine key _ (fun j hj => (va_up_ne _ _ hj).trans (h1 j hj).1) (fun k e' hk hg => ?_)
    rw [va_up_self]
    rw [List.getElem?_append] at hg
    by_cases c : k < l.length
    · rw [if_pos c] at hg
      rw [pk_un (by omega)]
      exact h3 k e' hk hg
    · rw [if_neg c] at hg
      have : k = l.length := by
        rcases Nat.eq_zero_or_pos (k - l.length) with z | z
        · omega
        · rw [List.getElem?_eq_none (by simp; omega)] at hg; cases hg
      subst this
      rw [pk_us]
      simp at hg
      rw [hg]
/-- the last variable -/
theorem last_c (hE : EW st Z) (hv : VZ Z) {p : Nat} (hp : p < 5) {l : List Nat} {s : CS} (h : IC st p l s) {r y : Nat} (hr : r < 1000) (hy : y < 65536) (hl : (l ++ solc (Z 25) [Z 7] r y).length < 100000) : ∃ s', f0_solveLast s (nI p) (nI (y * 16)) (nI r) = some s' ∧ IC st p (l ++ solc (Z 25) [Z 7] r y) s' := by
  obtain ⟨R, S, X, rfl, _⟩ := id h
  have w1 : c_weight (ES st R S X) (3 : Int32).toNatClampNeg = nI (Z 7) := hE.1 3 (by omega)
  have w2 : c_most (ES st R S X) = nI (Z 25) := hE.2
  have b1 := hv.le9 (k := 7) (by omega)
  have b2 := hv.le9 (k := 25) (by omega)
  have h21 : f0_solveLast (ES st R S X) (nI p) (nI (y * 16)) (nI r) = f0_solveLast_j21 (ES st R S X) (nI p) (nI (y * 16)) (nI r) (nI (if Z 7 = 0 then 0 else r / Z 7)) := by
    unfold f0_solveLast
    rw [w1]
    by_cases q : Z 7 = 0
    · rw [q, if_pos (show nI 0 ≤ (0 : Int32) from Int32.le_refl _), if_pos rfl]
      rfl
    · rw [if_neg (nI_nle (by omega) (by omega)), if_neg (nI_ne0 (by omega) (by omega)), pk_div (by omega) (by omega) (by omega), if_neg q]
  have hd : (if Z 7 = 0 then 0 else r / Z 7) < 1000 := by
    split
    · omega
    · exact Nat.lt_of_le_of_lt (Nat.div_le_self _ _) hr
  rw [h21]
  rw [solc_1] at hl ⊢
  generalize (if Z 7 = 0 then 0 else r / Z 7) = d at hd hl ⊢
  unfold f0_solveLast_j21
  rw [w1, w2, pk_mul]
  have hm : Z 7 * d < 10000 := Nat.lt_of_le_of_lt (Nat.mul_le_mul b1 (Nat.le_of_lt_succ (show d < 999 + 1 by omega))) (by omega)
  by_cases q : d ≤ Z 25
  · rw [if_neg (nI_nlt q (by omega))]
    by_cases q2 : Z 7 * d = r
    · rw [if_pos (show nI (Z 7 * d) = nI r by rw [q2]), if_pos (show Z 7 * d = r ∧ d ≤ Z 25 from ⟨q2, q⟩), or16 (by omega) (by omega)]
      have ha := add_c hp h (by rw [if_pos ⟨q2, q⟩, List.length_append] at hl; omega) (e := 16 * y + d) (by omega)
      rw [show (nI p).toNatClampNeg = p from tn (by omega)]
      exact ha
    · rw [if_neg (fun z => q2 ((nI_eq (by omega) (by omega)).mp z)), if_neg (fun z => q2 z.1), List.append_nil]
      exact ⟨_, rfl, h⟩
  · rw [if_pos (nI_lt (by omega) (by omega)), if_neg (fun z => q z.2), List.append_nil]
    exact ⟨_, rfl, h⟩
theorem top_c {s : CS} (hE : EW s Z) (hv : VZ Z) {f : Nat} (hf : f < 4) : f0_top s (nI f) = some (nI (if Z (4 + f) = 0 then 0 else Z 25)) := by
  have b1 := hv.le9 (k := 4 + f) (by omega)
  unfold f0_top
  rw [if_pos (ib_n hf (by omega)), tn (by omega), hE.1 f hf, hE.2]
  by_cases q : Z (4 + f) = 0
  · rw [q, if_pos (show nI 0 ≤ (0 : Int32) from Int32.le_refl _), if_pos rfl]
    rfl
  · rw [if_neg (nI_nle (by omega) (by omega)), if_neg q]
/-- a loop over a variable's numbers -/
theorem loop_c {p : Nat} {m w r : Nat} (hm : m ≤ 9) (hw : w ≤ 9) (hr : r < 1000) {b : CS × Int32 → Option ((CS × Int32) ⊕ CS)} {inner : CS → Nat → Option CS} {g : Nat → List Nat} {l : List Nat} {B : Nat}
    (hb : ∀ s i, i < 12 → (∃ l, IC st p l s) → b (s, nI i) = if nI (if w = 0 then 0 else m) < nI i then some (.inr s) else if nI r < nI (w * i) then some (.inr s) else bi1 (inner s i) fun s' => some (.inl (s', nI (i + 1))))
    (hin : ∀ s i l, i ≤ up w m r → IC st p l s → (l ++ g i).length < B → ∃ s', inner s i = some s' ∧ IC st p (l ++ g i) s') {s : CS} (h : IC st p l s) (hB : (l ++ (List.range (up w m r + 1)).flatMap g).length < B) : ∃ s', wh b FU (s, (0 : Int32)) = some s' ∧ IC st p (l ++ (List.range (up w m r + 1)).flatMap g) s' := by
  have hu := up_le (w := w) (m := m) (r := r)
  refine wh_inv (up w m r + 1) (by omega) (fun i z => ∃ s, z = (s, nI i) ∧ IC st p (l ++ (List.range i).flatMap g) s) _ ⟨s, rfl, by simpa using h⟩ ?_ ?_
  · rintro i _ hi ⟨s, rfl, hs⟩
    have h1 : w * i ≤ r := up_mul (m := m) (by omega)
    have h2 : i ≤ if w = 0 then 0 else m := by
      by_cases q : w = 0
      · rw [if_pos q]; unfold up at hi; rw [if_pos q] at hi; omega
      · rw [if_neg q]; omega
    have h3 : (if w = 0 then 0 else m) < 10 := by split <;> omega
    have hL := fm_mono (g := g) (show i + 1 ≤ up w m r + 1 by omega)
    rw [fm_s] at hL
    obtain ⟨s', k1, k2⟩ := hin s i _ (by omega) hs (by rw [List.length_append] at hB hL ⊢; rw [List.length_append]; omega)
    rw [hb s i (by omega) ⟨_, hs⟩, if_neg (nI_nlt h2 (by omega)), if_neg (nI_nlt h1 (by omega)), k1, bi1_s]
    refine Or.inl ⟨_, rfl, s', rfl, ?_⟩
    rw [fm_s, ← List.append_assoc]
    exact k2
  · rintro _ ⟨s, rfl, hs⟩
    have h3 : (if w = 0 then 0 else m) < 10 := by split <;> omega
    have h4 : w * (up w m r + 1) ≤ 9 * 10 := Nat.mul_le_mul hw (by omega)
    rw [hb s _ (by omega) ⟨_, hs⟩]
    by_cases q : (if w = 0 then 0 else m) < up w m r + 1
    · rw [if_pos (nI_lt q (by omega))]
      exact ⟨_, rfl, hs⟩
    · rw [if_neg (nI_nlt (by omega) (by omega))]
      have : r < w * (up w m r + 1) := by
        rcases up_out (w := w) (m := m) (r := r) (i := up w m r + 1) (by omega) with ⟨e, _⟩ | e | e
        · rw [if_pos e] at q; omega
        · by_cases z : w = 0
          · rw [if_pos z] at q; omega
          · rw [if_neg z] at q; omega
        · exact e
      rw [if_pos (nI_lt this (by omega))]
      exact ⟨_, rfl, hs⟩
end PJ
