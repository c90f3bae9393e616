/-! the case depth: ways to a number, by the class forward, by the model back -/
def zmxo (f : Nat → Nat) : Nat → Nat
  | 0 => 0
  | k + 1 => if zmxo f k < f (k + 1) then f (k + 1) else zmxo f k
theorem zmxo_ge {f : Nat → Nat} {k : Nat} : ∀ {m : Nat}, 1 ≤ k → k ≤ m → f k ≤ zmxo f m
  | 0, h1, h2 => by omega
  | m + 1, h1, h2 => by
    unfold zmxo
    by_cases z : k = m + 1
    · subst z
      split <;> omega
    · have := zmxo_ge (f := f) (m := m) h1 (by omega)
      split <;> omega
theorem zmxo_ex {f : Nat → Nat} : ∀ {m : Nat}, zmxo f m = 0 ∨ ∃ k, 1 ≤ k ∧ k ≤ m ∧ f k = zmxo f m
  | 0 => Or.inl rfl
  | m + 1 => by
    unfold zmxo
    split
    · exact Or.inr ⟨m + 1, by omega, Nat.le_refl _, rfl⟩
    · rcases zmxo_ex (f := f) (m := m) with z | ⟨k, h1, h2, h3⟩
      · exact Or.inl z
      · exact Or.inr ⟨k, h1, by omega, h3⟩
/-- forward from a number: the steps, or 0 -/
def zwgo (s : Nat → Int) (n m : Nat) : Nat → Nat → Nat → Nat
  | 0, _, _ => 0
  | c + 1, k, t => if s k = (k : Int) then 0 else if s k = (n : Int) then t else if s k < 1 ∨ (m : Int) < s k then 0 else zwgo s n m c (s k).toNat (t + 1)
/-- back from a number -/
def zDp (s : Nat → Int) (n m : Nat) : Nat → Nat → Nat
  | 0, _ => 0
  | F + 1, c => zmxo (fun b => if s b = (c : Int) ∧ b ≠ c then 1 + (if b = n then 0 else zDp s n m F b) else 0) m
/-- a way of t steps from k to c, not by n -/
def zPth (s : Nat → Int) (n m : Nat) : Nat → Nat → Nat → Prop
  | 0, _, _ => False
  | t + 1, c, k => ∃ b, (1 ≤ b ∧ b ≤ m) ∧ s b = (c : Int) ∧ b ≠ c ∧ ((t = 0 ∧ k = b) ∨ (b ≠ n ∧ zPth s n m t b k))
section Z74f
variable {s : Nat → Int} {n m : Nat}
theorem zPth_k : ∀ {t c k : Nat}, zPth s n m t c k → 1 ≤ t ∧ 1 ≤ k ∧ k ≤ m
  | 0, _, _, h => h.elim
  | t + 1, c, k, ⟨b, hb, _, _, h⟩ => by
    rcases h with ⟨_, rfl⟩ | ⟨_, h⟩
    · exact ⟨by omega, hb.1, hb.2⟩
    · exact ⟨by omega, (zPth_k h).2⟩
theorem zPth_last : ∀ {t c k : Nat}, zPth s n m (t + 2) c k → ∃ j : Nat, s k = (j : Int) ∧ k ≠ j ∧ j ≠ n ∧ (1 ≤ j ∧ j ≤ m) ∧ (1 ≤ k ∧ k ≤ m) ∧ zPth s n m (t + 1) c j
  | 0, c, k, ⟨b, hb, h1, h2, h⟩ => by
    rcases h with ⟨h, _⟩ | ⟨h3, b', hb', h4, h5, h⟩
    · exact absurd h (Nat.succ_ne_zero _)
    · rcases h with ⟨_, rfl⟩ | ⟨_, h⟩
      · exact ⟨b, h4, h5, h3, hb, hb', b, hb, h1, h2, Or.inl ⟨rfl, rfl⟩⟩
      · exact h.elim
  | t + 1, c, k, ⟨b, hb, h1, h2, h⟩ => by
    rcases h with ⟨h, _⟩ | ⟨h3, h⟩
    · omega
    · obtain ⟨j, j1, j2, j3, j4, j5, j6⟩ := zPth_last h
      exact ⟨j, j1, j2, j3, j4, j5, b, hb, h1, h2, Or.inr ⟨h3, j6⟩⟩
theorem zPth_more : ∀ {t c k j : Nat}, (1 ≤ k ∧ k ≤ m) → s k = (j : Int) → k ≠ j → j ≠ n → zPth s n m (t + 1) c j → zPth s n m (t + 2) c k
  | 0, c, k, j, hk, h1, h2, h3, ⟨b, hb, g1, g2, g⟩ => by
    rcases g with ⟨_, rfl⟩ | ⟨_, g⟩
    · exact ⟨j, hb, g1, g2, Or.inr ⟨h3, k, hk, h1, h2, Or.inl ⟨rfl, rfl⟩⟩⟩
    · exact g.elim
  | t + 1, c, k, j, hk, h1, h2, h3, ⟨b, hb, g1, g2, g⟩ => by
    rcases g with ⟨g, _⟩ | ⟨g3, g⟩
    · omega
    · exact ⟨b, hb, g1, g2, Or.inr ⟨g3, zPth_more hk h1 h2 h3 g⟩⟩
theorem zDp_ge : ∀ {F t c k : Nat}, t ≤ F → zPth s n m t c k → t ≤ zDp s n m F c
  | F, 0, _, _, _, _ => Nat.zero_le _
  | 0, t + 1, _, _, h, _ => by omega
  | F + 1, t + 1, c, k, h, ⟨b, hb, h1, h2, h3⟩ => by
    have e := zmxo_ge (f := fun b => if s b = (c : Int) ∧ b ≠ c then 1 + (if b = n then 0 else zDp s n m F b) else 0) hb.1 hb.2
    have e : (if s b = (c : Int) ∧ b ≠ c then 1 + (if b = n then 0 else zDp s n m F b) else 0) ≤ zDp s n m (F + 1) c := e
    rw [if_pos ⟨h1, h2⟩] at e
    rcases h3 with ⟨h3, _⟩ | ⟨h3, h4⟩
    · omega
    · rw [if_neg h3] at e
      have := zDp_ge (F := F) (by omega) h4
      omega
theorem zDp_ex : ∀ {F c : Nat}, zDp s n m F c = 0 ∨ ∃ k, zDp s n m F c ≤ F ∧ zPth s n m (zDp s n m F c) c k
  | 0, _ => Or.inl rfl
  | F + 1, c => by
    rcases zmxo_ex (f := fun b => if s b = (c : Int) ∧ b ≠ c then 1 + (if b = n then 0 else zDp s n m F b) else 0) (m := m) with z | ⟨b, b1, b2, h⟩
    · exact Or.inl z
    · have h : (if s b = (c : Int) ∧ b ≠ c then 1 + (if b = n then 0 else zDp s n m F b) else 0) = zDp s n m (F + 1) c := h
      by_cases q : s b = (c : Int) ∧ b ≠ c
      · right
        rw [if_pos q] at h
        by_cases y : b = n
        · rw [if_pos y] at h
          exact ⟨b, by omega, by rw [← h]; exact ⟨b, ⟨b1, b2⟩, q.1, q.2, Or.inl ⟨rfl, rfl⟩⟩⟩
        · rw [if_neg y] at h
          rcases zDp_ex (F := F) (c := b) with x | ⟨k, x1, x2⟩
          · rw [x] at h
            exact ⟨b, by omega, by rw [← h]; exact ⟨b, ⟨b1, b2⟩, q.1, q.2, Or.inl ⟨rfl, rfl⟩⟩⟩
          · exact ⟨k, by omega, by rw [← h, Nat.add_comm]; exact ⟨b, ⟨b1, b2⟩, q.1, q.2, Or.inr ⟨y, x2⟩⟩⟩
      · rw [if_neg q] at h
        exact Or.inl h.symm
theorem zDp_le {F c : Nat} : zDp s n m F c ≤ F := by
  rcases zDp_ex (s := s) (n := n) (m := m) (F := F) (c := c) with z | ⟨k, h, _⟩
  · omega
  · exact h
theorem zwgo_of : ∀ {C t k u : Nat}, t ≤ C → zPth s n m t n k → zwgo s n m C k u + 1 = u + t
  | C, 0, _, _, _, h => h.elim
  | 0, t + 1, _, _, h, _ => by omega
  | C + 1, 1, k, u, _, ⟨b, hb, h1, h2, h⟩ => by
    rcases h with ⟨_, rfl⟩ | ⟨_, h⟩
    · unfold zwgo
      rw [if_neg (by omega), if_pos h1]
    · exact h.elim
  | C + 1, t + 2, k, u, hC, h => by
    obtain ⟨j, j1, j2, j3, j4, j5, j6⟩ := zPth_last h
    unfold zwgo
    rw [if_neg (by omega), if_neg (by omega), if_neg (by omega), j1, Int.toNat_natCast]
    have := zwgo_of (C := C) (t := t + 1) (k := j) (u := u + 1) (by omega) j6
    omega
theorem zwgo_ex : ∀ {C k u : Nat}, 1 ≤ k ∧ k ≤ m → zwgo s n m C k u = 0 ∨ ∃ t, t + 1 ≤ C ∧ zPth s n m (t + 1) n k ∧ zwgo s n m C k u = u + t
  | 0, _, _, _ => Or.inl rfl
  | C + 1, k, u, hk => by
    unfold zwgo
    by_cases z1 : s k = (k : Int)
    · rw [if_pos z1]; exact Or.inl rfl
    · rw [if_neg z1]
      by_cases z2 : s k = (n : Int)
      · rw [if_pos z2]
        exact Or.inr ⟨0, by omega, ⟨k, hk, z2, fun q => z1 (by rw [z2, q]), Or.inl ⟨rfl, rfl⟩⟩, rfl⟩
      · rw [if_neg z2]
        by_cases z3 : s k < 1 ∨ (m : Int) < s k
        · rw [if_pos z3]; exact Or.inl rfl
        · rw [if_neg z3]
          have hj : 1 ≤ (s k).toNat ∧ (s k).toNat ≤ m := by omega
          rcases zwgo_ex (C := C) (k := (s k).toNat) (u := u + 1) hj with y | ⟨t, t1, t2, t3⟩
          · exact Or.inl y
          · exact Or.inr ⟨t + 1, by omega, zPth_more hk (by omega) (by omega) (by omega) t2, by omega⟩
/-- both are the same -/
theorem zDp_both : zmxo (fun i => zwgo s n m (m + 1) i 1) m = zDp s n m (m + 1) n := by
  refine Nat.le_antisymm ?_ ?_
  · rcases zmxo_ex (f := fun i => zwgo s n m (m + 1) i 1) (m := m) with z | ⟨k, k1, k2, h⟩
    · rw [z]; exact Nat.zero_le _
    · rw [← h]
      show zwgo s n m (m + 1) k 1 ≤ _
      rcases zwgo_ex (s := s) (n := n) (C := m + 1) (u := 1) ⟨k1, k2⟩ with y | ⟨t, t1, t2, t3⟩
      · rw [y]; exact Nat.zero_le _
      · have := zDp_ge (F := m + 1) (by omega) t2
        omega
  · rcases zDp_ex (s := s) (n := n) (m := m) (F := m + 1) (c := n) with z | ⟨k, h1, h2⟩
    · rw [z]; exact Nat.zero_le _
    · have hk := zPth_k h2
      have e := zwgo_of (C := m + 1) (u := 1) h1 h2
      have := zmxo_ge (f := fun i => zwgo s n m (m + 1) i 1) hk.2.1 hk.2.2
      have this : zwgo s n m (m + 1) k 1 ≤ zmxo (fun i => zwgo s n m (m + 1) i 1) m := this
      omega
/-- the numbers on the way back: the last one is n -/
def zStk (s : Nat → Int) (n m : Nat) : List Nat → Prop
  | [] => False
  | [a] => a = n
  | b :: a :: r => (1 ≤ b ∧ b ≤ m) ∧ s b = (a : Int) ∧ b ∉ a :: r ∧ zStk s n m (a :: r)
theorem zStk_nd : ∀ {l : List Nat}, zStk s n m l → l.Nodup ∧ (∀ x ∈ l, x = n ∨ (1 ≤ x ∧ x ≤ m)) ∧ n ∈ l
  | [], h => h.elim
  | [a], h => by
    have h : a = n := h
    subst h
    exact ⟨by simp, fun x hx => Or.inl (List.mem_singleton.mp hx), List.mem_singleton.mpr rfl⟩
  | b :: a :: r, ⟨h1, _, h3, h4⟩ => by
    obtain ⟨i1, i2, i3⟩ := zStk_nd h4
    refine ⟨List.nodup_cons.mpr ⟨h3, i1⟩, fun x hx => ?_, List.mem_cons_of_mem _ i3⟩
    rcases List.mem_cons.mp hx with z | z
    · rw [z]; exact Or.inr h1
    · exact i2 x z
theorem zStk_len {l : List Nat} (h : zStk s n m l) : l.length ≤ m + 1 := by
  obtain ⟨i1, i2, -⟩ := zStk_nd h
  have := znd_le (l' := n :: List.range' 1 m) i1 (fun x hx => by
    rcases i2 x hx with z | z
    · rw [z]; exact List.mem_cons_self
    · exact List.mem_cons_of_mem _ (by rw [List.mem_range'_1]; omega))
  rw [List.length_cons, List.length_range'] at this
  exact this
theorem zStk_in : ∀ {r : List Nat} {c x : Nat}, zStk s n m (c :: r) → x ∈ r → x ≠ n → ∃ y ∈ r, s x = (y : Int)
  | [], _, _, _, hx, _ => by cases hx
  | [a], c, x, h, hx, hn => by
    have h4 : a = n := h.2.2.2
    exact absurd ((List.mem_singleton.mp hx).trans h4) hn
  | a :: a' :: r, c, x, h, hx, hn => by
    have h4 := h.2.2.2
    rcases List.mem_cons.mp hx with z | z
    · subst z
      exact ⟨a', List.mem_cons_of_mem _ List.mem_cons_self, h4.2.1⟩
    · obtain ⟨y, hy, e⟩ := zStk_in h4 z hn
      exact ⟨y, List.mem_cons_of_mem _ hy, e⟩
end Z74f
