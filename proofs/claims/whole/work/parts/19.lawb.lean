/-! The law: its world, what a step of it must say of the two pictures (okI, okJ), rows over the script. -/
abbrev lW (g : Nat → ClassId) (a bb : Nat → Nat) (ob : Nat) (st : CS) (ms : MS) (w : Nat → Int64) : va_W := (cW g a st ++ oW g ob w) ++ mW g bb ms
def okI (f : CS → Option (CS × (Nat ⊕ Int32))) (h : MS → Option (MS × Int32)) (L : List Nat) (Rel : CS → MS → Prop) (st : CS) (ms : MS) : Prop :=
  ∃ (st' : CS) (res : Nat ⊕ Int32) (ms' : MS) (b v : Int32), f st = some (st', res) ∧ h ms = some (ms', b) ∧ hco L res = some v ∧ m_thrown ms' = v ∧ (∀ r, res = .inr r → r = b) ∧ Rel st' ms'
def okJ (f : CS → Option (CS × (Nat ⊕ Int64))) (h : MS → Option (MS × Int64)) (L : List Nat) (Rel : CS → MS → Prop) (st : CS) (ms : MS) : Prop :=
  ∃ (st' : CS) (res : Nat ⊕ Int64) (ms' : MS) (b : Int64) (v : Int32), f st = some (st', res) ∧ h ms = some (ms', b) ∧ hco L res = some v ∧ m_thrown ms' = v ∧ (∀ r, res = .inr r → r = b) ∧ Rel st' ms'
theorem hcd_pos : ∀ (L : List Nat) (n : Nat) (k : Nat) (v : Int32), 0 < n → n + L.length < 100 → hcd L (nI n) k = some v → ¬ v = 0
  | [], _, _, _, _, _, h => by cases h
  | a :: L, n, k, v, h0, h1, h => by
    rw [hcd] at h
    by_cases hk : k = a
    · rw [if_pos hk] at h
      cases h
      exact nI_ne0 h0 (by simp at h1; omega)
    · rw [if_neg hk, nI_1] at h
      exact hcd_pos L (n + 1) k v (by omega) (by simp at h1 ⊢; omega) h
theorem hco_0 {α : Type} {L : List Nat} {res : Nat ⊕ α} {v : Int32} (hL : L.length < 90) (h : hco L res = some v) (hv : v = 0) : ∃ r, res = .inr r := by
  cases res with
  | inr r => exact ⟨r, rfl⟩
  | inl k => exact absurd hv (hcd_pos L 1 k v (by omega) (by omega) h)
theorem houtI_at {w : Nat → Int64} {r : Int32} : houtI w (.inr r) (0 : Int32).toNatClampNeg = r.toInt64 := by simp [houtI, vp_updL]
theorem houtJ_at {w : Nat → Int64} {r : Int64} : houtJ w (.inr r) (0 : Int32).toNatClampNeg = r := by simp [houtJ, vp_updL]
theorem lg_cmp_self {x y : Int64} (h : x = y) : lg_cmp x y = 0 := by
  subst h
  unfold lg_cmp
  rw [if_neg (by simp), if_pos rfl]
/-- what holds all along the law -/
def LC (p : Program) (l : Launch) (s : State) (m : MethodId) (c : Code) (b L : Nat) (xs : Nat → Int32) (D : va_G) (g : Nat → ClassId) (A : Nat → Prop) : Prop :=
  en p m c cL_law 9 s #[Value.ref b] RL D g ∧ XW A s ∧ NC s ∧ va_X b L xs s s.heap ∧ b < s.heap.size ∧ ¬ A b ∧ L ≤ 2560 ∧ l.stackTraces = false
theorem sw_out26 {x : Int32} (h : ∀ k : Nat, k < 27 → ¬ x = nI k) : x.toInt < 0 ∨ 26 < x.toInt := by
  rcases (show x.toInt < 0 ∨ 0 ≤ x.toInt by omega) with q | q
  · exact Or.inl q
  · refine Or.inr (Int.not_le.mp fun q2 => ?_)
    obtain ⟨k, hk⟩ := Int.eq_ofNat_of_zero_le q
    refine h k (by omega) (Int32.toInt_inj.mp ?_)
    rw [hk, nI_toInt (by omega)]
section LW
variable {p : Program} {l : Launch} {e : Env} {R : Room} {s : State} {m : MethodId} {below : List Frame} {meth : Method} {c : Code} {H : Heap} {locs : List Loc} {cells slots : Nat} {Q : State → Prop}
variable {pc : Nat} {ls : Array Slot} {rest : List Value} {D : va_G} {g : Nat → ClassId} {A : Nat → Prop} {b L : Nat} {xs : Nat → Int32} {ws : va_W}
theorem l_sld {x : Int32} {i k : Nat} (C : LC p l s m c b L xs D g A) (I : wk D ws A s.heap H locs) (hk : i + k < L) (hx : x = nI (i + k)) (hdg : decode cL_law pc = .ok (.iaload, 1))
    (kk : W p l e R s m #[Value.ref b] below meth c H locs cells slots Q (F0 m (pc + 1) ls (.int (xs (i + k)) :: rest))) : W p l e R s m #[Value.ref b] below meth c H locs cells slots Q (F0 m pc ls (.int x :: .ref b :: rest)) := by
  obtain ⟨E, -, -, hX, hbl, hbA, hL, -⟩ := C
  subst hx
  refine va_sld E.1.1 E.1.2.1 hX hbl hbA I.2.2 (vp_in_nI hk (by omega)) hdg ?_
  rw [nI_clamp (by omega)]
  exact kk
end LW
theorem lW_as {D : va_G} {g : Nat → ClassId} {a bb : Nat → Nat} {ob : Nat} {st : CS} {ms : MS} {w : Nat → Int64} {A : Nat → Prop} {H0 H : Heap} {locs : List Loc} (I : wk D (cW g a st ++ (oW g ob w ++ mW g bb ms)) A H0 H locs) : wk D (lW g a bb ob st ms w) A H0 H locs := by
  rw [← List.append_assoc] at I
  exact I
theorem nI_k (i k : Nat) {x : Int32} (h : x = nI k) : nI i + x = nI (i + k) := by rw [h, nI_add]
theorem lw_in {i L : Nat} (hL : L ≤ 2560) (hi : i ≤ 2565) (h : ¬ (nI L - 5 < nI i)) : i + 5 ≤ L := by
  rcases Nat.lt_or_ge L (i + 5) with q | q
  · refine absurd ?_ h
    rw [Int32.lt_iff_toInt_lt, show (5 : Int32) = nI 5 from rfl, pk_sub_toInt (by omega) (by omega), nI_toInt (by omega)]
    omega
  · exact q
