/-! a run of the small machine is a run of the machine: calls, returns, the whole -/
def zMono (f : zSem) : Prop := ∀ (i : zC) (pc : Nat) (ls st : List zV) (S : zHp) (q : zNx), f i pc ls st S = some q → S.2.1.length ≤ q.2.2.2.2.1.length ∧ zslots S ≤ zslots q.2.2.2 ∧ q.2.2.2.1 = S.1
theorem zmono_rf (S : zHp) (H : Int → Int → Int) : S.2.1.length ≤ S.2.1.length ∧ zslots S ≤ zslots (S.1, S.2.1, H) ∧ S.1 = S.1 := ⟨Nat.le_refl _, Nat.le_refl _, rfl⟩
theorem zmono_push (S : zHp) (k n : Nat) (H : Int → Int → Int) : S.2.1.length ≤ (S.2.1 ++ [(k, n)]).length ∧ zslots S ≤ zslots (S.1, S.2.1 ++ [(k, n)], H) ∧ S.1 = S.1 := ⟨by simp, by rw [zslots_push]; omega, rfl⟩
theorem zmono_all : ∀ f ∈ zsems, zMono f := by
  intro f hf
  simp only [zsems, List.mem_cons, List.not_mem_nil, or_false] at hf
  rcases hf with rfl | rfl | rfl | rfl | rfl | rfl | rfl | rfl | rfl | rfl | rfl | rfl | rfl | rfl | rfl | rfl | rfl | rfl | rfl | rfl | rfl | rfl | rfl | rfl | rfl | rfl | rfl | rfl | rfl | rfl | rfl | rfl | rfl | rfl | rfl | rfl | rfl | rfl | rfl | rfl | rfl | rfl | rfl | rfl | rfl | rfl <;> intro i pc ls st S q h <;> obtain ⟨op, len, a, b, k, ex⟩ := i
  · cases h
  · cases h; exact zmono_rf S _
  · cases h; exact zmono_rf S _
  · simp only [zs_iload] at h; split at h <;> cases h; exact zmono_rf S _
  · simp only [zs_lload] at h; split at h <;> cases h; exact zmono_rf S _
  · simp only [zs_aload] at h
    split at h
    · split at h <;> cases h; exact zmono_rf S _
    · cases h; exact zmono_rf S _
    · cases h
  · simp only [zs_istore] at h
    split at h
    · split at h <;> cases h; exact zmono_rf S _
    · cases h
  · simp only [zs_lstore] at h
    split at h
    · split at h <;> cases h; exact zmono_rf S _
    · cases h
  · simp only [zs_astore] at h
    split at h
    · split at h
      · cases h
      · split at h <;> cases h; exact zmono_rf S _
    · cases h
  · simp only [zs_iinc] at h; split at h <;> cases h; exact zmono_rf S _
  · simp only [zs_iar] at h
    split at h
    · simp only [Option.map_eq_some_iff] at h; obtain ⟨r, -, h⟩ := h; cases h; exact zmono_rf S _
    · cases h
  · simp only [zs_lar] at h
    split at h
    · simp only [Option.map_eq_some_iff] at h; obtain ⟨r, -, h⟩ := h; cases h; exact zmono_rf S _
    · cases h
  · simp only [zs_lsh] at h; split at h <;> cases h; exact zmono_rf S _
  · simp only [zs_un] at h
    split at h
    · cases h; exact zmono_rf S _
    · cases h; exact zmono_rf S _
    · cases h; exact zmono_rf S _
    · cases h; exact zmono_rf S _
    · split at h <;> cases h; exact zmono_rf S _
    · cases h
  · simp only [zs_lcmp] at h; split at h <;> cases h; exact zmono_rf S _
  · simp only [zs_if] at h; split at h <;> cases h; exact zmono_rf S _
  · simp only [zs_icmp] at h; split at h <;> cases h; exact zmono_rf S _
  · cases h; exact zmono_rf S _
  · simp only [zs_get] at h
    split at h
    · split at h
      · split at h <;> cases h; exact zmono_rf S _
      · cases h
    · cases h
  · simp only [zs_put] at h
    split at h
    · split at h
      · split at h <;> cases h; exact zmono_rf S _
      · cases h
    · cases h
  · simp only [zs_alen] at h
    split at h
    · split at h
      · split at h <;> cases h; exact zmono_rf S _
      · cases h
    · cases h
  · simp only [zs_ald] at h
    split at h
    · split at h
      · split at h <;> cases h; exact zmono_rf S _
      · cases h
    · cases h
  · simp only [zs_xast] at h
    split at h
    · simp only [zs_iast] at h
      split at h
      · split at h
        · split at h <;> cases h; exact zmono_rf S _
        · cases h
      · cases h
    · simp only [zs_last] at h
      split at h
      · split at h
        · split at h <;> cases h; exact zmono_rf S _
        · cases h
      · cases h
    · simp only [zs_bast] at h
      split at h
      · split at h
        · split at h <;> cases h; exact zmono_rf S _
        · cases h
      · cases h
    · simp only [zs_aast] at h
      split at h
      · split at h
        · split at h <;> cases h; exact zmono_rf S _
        · cases h
      · cases h
    · cases h
  · simp only [zs_dup] at h
    split at h
    · split at h <;> cases h; exact zmono_rf S _
    · cases h
  · simp only [zs_dup2] at h
    split at h
    · split at h
      · cases h; exact zmono_rf S _
      · split at h
        · split at h <;> cases h; exact zmono_rf S _
        · cases h
    · cases h
  · simp only [zs_newa] at h
    split at h
    · split at h <;> cases h; exact zmono_push S _ _ _
    · cases h
  · simp only [zs_newq] at h
    split at h
    · split at h <;> cases h; exact zmono_push S _ _ _
    · cases h
  · simp only [zs_new] at h
    split at h <;> cases h; exact zmono_push S _ _ _
  · cases h
  · cases h
  · simp only [zs_table] at h
    split at h
    · split at h <;> cases h <;> exact zmono_rf S _
    · cases h
  · simp only [zs_stat] at h; split at h <;> cases h <;> exact zmono_rf S _
  · simp only [zs_ldcs] at h
    split at h
    · cases h; exact zmono_rf S _
    · split at h <;> cases h; exact zmono_rf S _
  · simp only [zs_pop] at h
    split at h
    · split at h <;> cases h; exact zmono_rf S _
    · cases h
  · simp only [zs_obj] at h
    split at h
    · split at h <;> cases h; exact zmono_rf S _
    · cases h
  · simp only [zs_sget] at h
    split at h
    · split at h
      · cases h; exact zmono_rf S _
      · split at h
        · cases h; exact zmono_rf S _
        · split at h
          · split at h <;> cases h; exact zmono_rf S _
          · cases h
    · cases h
  · simp only [zs_look] at h; split at h <;> cases h; exact zmono_rf S _
  · simp only [zs_math] at h
    split at h
    · split at h <;> cases h; exact zmono_rf S _
    · split at h <;> cases h; exact zmono_rf S _
    · split at h <;> cases h; exact zmono_rf S _
    · cases h
  · simp only [zs_math] at h
    split at h
    · split at h <;> cases h; exact zmono_rf S _
    · split at h <;> cases h; exact zmono_rf S _
    · split at h <;> cases h; exact zmono_rf S _
    · cases h
  · simp only [zs_math] at h
    split at h
    · split at h <;> cases h; exact zmono_rf S _
    · split at h <;> cases h; exact zmono_rf S _
    · split at h <;> cases h; exact zmono_rf S _
    · cases h
  · cases h; exact zmono_rf S _
  · simp only [zs_dupx] at h
    split at h
    · split at h <;> cases h; exact zmono_rf S _
    · cases h
  · simp only [zs_acopy] at h
    split at h
    · split at h
      · split at h <;> cases h; exact zmono_rf S _
      · cases h
    · cases h
  · simp only [zs_nonnull] at h
    split at h <;> cases h; exact zmono_rf S _
  · simp only [zs_clone] at h
    split at h
    · split at h
      · split at h <;> cases h; exact zmono_push S _ _ _
      · cases h
    · cases h
  · simp only [zs_cast] at h
    split at h
    · split at h
      · split at h <;> cases h; exact zmono_rf S _
      · cases h
    · cases h
theorem zstep_mono : zMono zstep := by
  intro i pc ls st S q h
  unfold zstep at h
  by_cases hl : i.1 < zsems.length
  · rw [List.getD_eq_getElem?_getD, List.getElem?_eq_getElem hl] at h
    exact zmono_all _ (List.getElem_mem hl) i pc ls st S q h
  · rw [List.getD_eq_getElem?_getD, List.getElem?_eq_none (by omega)] at h
    cases h
theorem ex_mono : ∀ (n d y pc : Nat) (ls st : List zV) (S : zHp) (r : zV) (S' : zHp), ex n d y pc ls st S = some (r, S') → S.2.1.length ≤ S'.2.1.length ∧ zslots S ≤ zslots S' := by
  intro n
  induction n with
  | zero => intro d y pc ls st S r S' h; cases h
  | succ n ih =>
    intro d y pc ls st S r S' h
    rw [ex] at h
    split at h
    · cases h
    · split at h
      · simp only [Option.map_eq_some_iff] at h
        obtain ⟨q, -, h⟩ := h
        cases h
        exact ⟨Nat.le_refl _, Nat.le_refl _⟩
      · split at h
        · split at h
          · cases h
          · split at h
            · cases h
            · split at h
              · cases h
              · rename_i h1
                have a := ih _ _ _ _ _ _ _ _ h1
                have b := ih _ _ _ _ _ _ _ _ h
                exact ⟨Nat.le_trans a.1 b.1, Nat.le_trans a.2 b.2⟩
        · split at h
          · cases h
          · rename_i h1
            have a := zstep_mono _ _ _ _ _ _ h1
            have b := ih _ _ _ _ _ _ _ _ h
            exact ⟨Nat.le_trans a.1 b.1, Nat.le_trans a.2.1 b.2⟩
-- contracts
def zPc (G : zG) (as : List zV) (S : zHp) : Array Value → State → Prop := fun v U => v = (as.map (zcv G)).toArray ∧ zFix G U ∧ zRel G S U.heap
def zrv (G : zG) (r : zV) : Option Value := if r.1 = 3 then none else some (zcv G r)
def zQc (G : zG) (r : zV) (S' : zHp) : Array Value → State → Outcome → State → Prop := fun _ st o t => (o = .returned (zrv G r) ∧ zwf r) ∧ zRel G S' t.heap ∧ va_F (zA G) st t
def zrm (d : Nat) (S S' : zHp) : Room := { frames := d + 1, cells := S'.2.1.length - S.2.1.length, slots := zslots S' - zslots S, locals := 24 + 40 * d }
def zwords (y : Nat) : List Cond := Cond.code (zmn y) (zby y) (zml y) (zrt y) :: zTs
def zMet (G : zG) (l : Launch) (d y : Nat) (as : List zV) (S : zHp) (r : zV) (S' : zHp) : Prop :=
  Met l (zmn y) (zwords y) (zrm d S S') (zPc G as S) (zQc G r S') (S'.2.1.length - S.2.1.length) (zslots S' - zslots S) (zA G)
theorem zPc_blind (G : zG) (as : List zV) (S : zHp) : FrameBlind (zPc G as S) := fun a U g mk q => ⟨q.1, q.2.1.same rfl rfl, q.2.2⟩
theorem z_good {l : List Cond} (h : ∀ w ∈ l, w ∈ zTs) : GoodIn zTs l := fun w hw => ⟨h w hw, good_of_word (List.mem_filter.mp (h w hw)).2⟩
section ZW
variable {p : Program} {l : Launch} {e : Env} {R : Room} {s : State} {m : MethodId} {args : Array Value} {below : List Frame} {meth : Method} {c : Code} {H : Heap} {locs : List Loc} {cells slots : Nat} {Q : State → Prop}
theorem z_back {G : zG} {r : zV} {S1 : zHp} {mc ms pc : Nat} {lm : Array Slot} {st0 rest : List Value} {a : Array Value} (hr : va_Run p l e R s m args below meth c H locs cells slots mc ms (F0 m pc lm st0) rest (zQc G r S1 a) (zA G)) (hS : va_S (zA G) s.heap H locs)
    (kk : ∀ (H1 : Heap) (locs1 : List Loc), zwf r → zRel G S1 H1 → va_S (zA G) s.heap H1 locs1 → W p l e R s m args below meth c H1 locs1 (cells + mc) (slots + ms) Q (F0 m (pc + 3) lm ((zrv G r).toList ++ rest))) : W p l e R s m args below meth c H locs cells slots Q (F0 m pc lm st0) := by
  intro T hT X
  obtain ⟨v, st₀, t, T', L, h0, X', hL, e1, e2, ⟨⟨hv, hwr⟩, hrel, hz, hk⟩, st⟩ := hr T hT X
  cases hv
  rw [h0] at hz hk
  obtain ⟨t2, a1, b1⟩ := kk T'.heap (locs ++ L) hwr (by rw [e1]; exact hrel)
    ⟨Nat.le_trans hS.1 (by rw [e1]; exact hz), fun q h1 h2 => by rw [e1, hk q (Nat.lt_of_lt_of_le h1 hS.1) h2]; exact hS.2.1 q h1 h2, fun q hq => by
      rcases List.mem_append.mp hq with h | h
      · exact hS.2.2 q h
      · exact hL q h⟩ T' rfl X'
  exact ⟨t2, st t2 a1, b1⟩
end ZW
def zgood : List Nat := [1, 3, 4, 5, 6, 7, 8, 9, 10, 11, 12, 13, 14, 15, 16, 17, 18, 19, 20, 21, 22, 23, 24, 25, 26, 27, 28, 29, 30, 31, 32, 33, 34, 35, 36, 37, 38, 39, 40, 41, 42, 43, 44, 45, 46, 47, 48, 49, 50, 51, 52, 53, 54, 55, 56, 57, 58, 59, 60, 61, 62, 63, 64, 65, 66, 67, 68, 69, 70, 71, 72, 76, 77, 94, 105, 106, 107, 108, 109, 110, 111, 112, 113, 114, 170, 171, 172, 173, 174, 175, 176, 177, 178, 179, 180, 181, 182, 183, 184, 185, 186, 187, 188, 189, 190, 191, 192, 193, 194, 195, 196, 197, 198, 199, 200, 201, 202, 203, 204, 205, 206, 207, 208, 209]
def zOK (y : Nat) : Prop := zcode (zprog.getD y []) y 0 = true ∧ zmeta y = true
set_option maxRecDepth 100000 in
theorem zgood_ok : ∀ t ∈ zgood, zOK t :=
  List.forall_mem_cons.mpr ⟨⟨zk_ok1, zm_ok1⟩, List.forall_mem_cons.mpr ⟨⟨zk_ok3, zm_ok3⟩, List.forall_mem_cons.mpr ⟨⟨zk_ok4, zm_ok4⟩, List.forall_mem_cons.mpr ⟨⟨zk_ok5, zm_ok5⟩, List.forall_mem_cons.mpr ⟨⟨zk_ok6, zm_ok6⟩, List.forall_mem_cons.mpr ⟨⟨zk_ok7, zm_ok7⟩, List.forall_mem_cons.mpr ⟨⟨zk_ok8, zm_ok8⟩, List.forall_mem_cons.mpr ⟨⟨zk_ok9, zm_ok9⟩, List.forall_mem_cons.mpr ⟨⟨zk_ok10, zm_ok10⟩, List.forall_mem_cons.mpr ⟨⟨zk_ok11, zm_ok11⟩, List.forall_mem_cons.mpr ⟨⟨zk_ok12, zm_ok12⟩, List.forall_mem_cons.mpr ⟨⟨zk_ok13, zm_ok13⟩, List.forall_mem_cons.mpr ⟨⟨zk_ok14, zm_ok14⟩, List.forall_mem_cons.mpr ⟨⟨zk_ok15, zm_ok15⟩, List.forall_mem_cons.mpr ⟨⟨zk_ok16, zm_ok16⟩, List.forall_mem_cons.mpr ⟨⟨zk_ok17, zm_ok17⟩, List.forall_mem_cons.mpr ⟨⟨zk_ok18, zm_ok18⟩, List.forall_mem_cons.mpr ⟨⟨zk_ok19, zm_ok19⟩, List.forall_mem_cons.mpr ⟨⟨zk_ok20, zm_ok20⟩, List.forall_mem_cons.mpr ⟨⟨zk_ok21, zm_ok21⟩, List.forall_mem_cons.mpr ⟨⟨zk_ok22, zm_ok22⟩, List.forall_mem_cons.mpr ⟨⟨zk_ok23, zm_ok23⟩, List.forall_mem_cons.mpr ⟨⟨zk_ok24, zm_ok24⟩, List.forall_mem_cons.mpr ⟨⟨zk_ok25, zm_ok25⟩, List.forall_mem_cons.mpr ⟨⟨zk_ok26, zm_ok26⟩, List.forall_mem_cons.mpr ⟨⟨zk_ok27, zm_ok27⟩, List.forall_mem_cons.mpr ⟨⟨zk_ok28, zm_ok28⟩, List.forall_mem_cons.mpr ⟨⟨zk_ok29, zm_ok29⟩, List.forall_mem_cons.mpr ⟨⟨zk_ok30, zm_ok30⟩, List.forall_mem_cons.mpr ⟨⟨zk_ok31, zm_ok31⟩, List.forall_mem_cons.mpr ⟨⟨zk_ok32, zm_ok32⟩, List.forall_mem_cons.mpr ⟨⟨zk_ok33, zm_ok33⟩, List.forall_mem_cons.mpr ⟨⟨zk_ok34, zm_ok34⟩, List.forall_mem_cons.mpr ⟨⟨zk_ok35, zm_ok35⟩, List.forall_mem_cons.mpr ⟨⟨zk_ok36, zm_ok36⟩, List.forall_mem_cons.mpr ⟨⟨zk_ok37, zm_ok37⟩, List.forall_mem_cons.mpr ⟨⟨zk_ok38, zm_ok38⟩, List.forall_mem_cons.mpr ⟨⟨zk_ok39, zm_ok39⟩, List.forall_mem_cons.mpr ⟨⟨zk_ok40, zm_ok40⟩, List.forall_mem_cons.mpr ⟨⟨zk_ok41, zm_ok41⟩, List.forall_mem_cons.mpr ⟨⟨zk_ok42, zm_ok42⟩, List.forall_mem_cons.mpr ⟨⟨zk_ok43, zm_ok43⟩, List.forall_mem_cons.mpr ⟨⟨zk_ok44, zm_ok44⟩, List.forall_mem_cons.mpr ⟨⟨zk_ok45, zm_ok45⟩, List.forall_mem_cons.mpr ⟨⟨zk_ok46, zm_ok46⟩, List.forall_mem_cons.mpr ⟨⟨zk_ok47, zm_ok47⟩, List.forall_mem_cons.mpr ⟨⟨zk_ok48, zm_ok48⟩, List.forall_mem_cons.mpr ⟨⟨zk_ok49, zm_ok49⟩, List.forall_mem_cons.mpr ⟨⟨zk_ok50, zm_ok50⟩, List.forall_mem_cons.mpr ⟨⟨zk_ok51, zm_ok51⟩, List.forall_mem_cons.mpr ⟨⟨zk_ok52, zm_ok52⟩, List.forall_mem_cons.mpr ⟨⟨zk_ok53, zm_ok53⟩, List.forall_mem_cons.mpr ⟨⟨zk_ok54, zm_ok54⟩, List.forall_mem_cons.mpr ⟨⟨zk_ok55, zm_ok55⟩, List.forall_mem_cons.mpr ⟨⟨zk_ok56, zm_ok56⟩, List.forall_mem_cons.mpr ⟨⟨zk_ok57, zm_ok57⟩, List.forall_mem_cons.mpr ⟨⟨zk_ok58, zm_ok58⟩, List.forall_mem_cons.mpr ⟨⟨zk_ok59, zm_ok59⟩, List.forall_mem_cons.mpr ⟨⟨zk_ok60, zm_ok60⟩, List.forall_mem_cons.mpr ⟨⟨zk_ok61, zm_ok61⟩, List.forall_mem_cons.mpr ⟨⟨zk_ok62, zm_ok62⟩, List.forall_mem_cons.mpr ⟨⟨zk_ok63, zm_ok63⟩, List.forall_mem_cons.mpr ⟨⟨zk_ok64, zm_ok64⟩, List.forall_mem_cons.mpr ⟨⟨zk_ok65, zm_ok65⟩, List.forall_mem_cons.mpr ⟨⟨zk_ok66, zm_ok66⟩, List.forall_mem_cons.mpr ⟨⟨zk_ok67, zm_ok67⟩, List.forall_mem_cons.mpr ⟨⟨zk_ok68, zm_ok68⟩, List.forall_mem_cons.mpr ⟨⟨zk_ok69, zm_ok69⟩, List.forall_mem_cons.mpr ⟨⟨zk_ok70, zm_ok70⟩, List.forall_mem_cons.mpr ⟨⟨zk_ok71, zm_ok71⟩, List.forall_mem_cons.mpr ⟨⟨zk_ok72, zm_ok72⟩, List.forall_mem_cons.mpr ⟨⟨zk_ok76, zm_ok76⟩, List.forall_mem_cons.mpr ⟨⟨zk_ok77, zm_ok77⟩, List.forall_mem_cons.mpr ⟨⟨zk_ok94, zm_ok94⟩, List.forall_mem_cons.mpr ⟨⟨zk_ok105, zm_ok105⟩, List.forall_mem_cons.mpr ⟨⟨zk_ok106, zm_ok106⟩, List.forall_mem_cons.mpr ⟨⟨zk_ok107, zm_ok107⟩, List.forall_mem_cons.mpr ⟨⟨zk_ok108, zm_ok108⟩, List.forall_mem_cons.mpr ⟨⟨zk_ok109, zm_ok109⟩, List.forall_mem_cons.mpr ⟨⟨zk_ok110, zm_ok110⟩, List.forall_mem_cons.mpr ⟨⟨zk_ok111, zm_ok111⟩, List.forall_mem_cons.mpr ⟨⟨zk_ok112, zm_ok112⟩, List.forall_mem_cons.mpr ⟨⟨zk_ok113, zm_ok113⟩, List.forall_mem_cons.mpr ⟨⟨zk_ok114, zm_ok114⟩, List.forall_mem_cons.mpr ⟨⟨zk_ok170, zm_ok170⟩, List.forall_mem_cons.mpr ⟨⟨zk_ok171, zm_ok171⟩, List.forall_mem_cons.mpr ⟨⟨zk_ok172, zm_ok172⟩, List.forall_mem_cons.mpr ⟨⟨zk_ok173, zm_ok173⟩, List.forall_mem_cons.mpr ⟨⟨zk_ok174, zm_ok174⟩, List.forall_mem_cons.mpr ⟨⟨zk_ok175, zm_ok175⟩, List.forall_mem_cons.mpr ⟨⟨zk_ok176, zm_ok176⟩, List.forall_mem_cons.mpr ⟨⟨zk_ok177, zm_ok177⟩, List.forall_mem_cons.mpr ⟨⟨zk_ok178, zm_ok178⟩, List.forall_mem_cons.mpr ⟨⟨zk_ok179, zm_ok179⟩, List.forall_mem_cons.mpr ⟨⟨zk_ok180, zm_ok180⟩, List.forall_mem_cons.mpr ⟨⟨zk_ok181, zm_ok181⟩, List.forall_mem_cons.mpr ⟨⟨zk_ok182, zm_ok182⟩, List.forall_mem_cons.mpr ⟨⟨zk_ok183, zm_ok183⟩, List.forall_mem_cons.mpr ⟨⟨zk_ok184, zm_ok184⟩, List.forall_mem_cons.mpr ⟨⟨zk_ok185, zm_ok185⟩, List.forall_mem_cons.mpr ⟨⟨zk_ok186, zm_ok186⟩, List.forall_mem_cons.mpr ⟨⟨zk_ok187, zm_ok187⟩, List.forall_mem_cons.mpr ⟨⟨zk_ok188, zm_ok188⟩, List.forall_mem_cons.mpr ⟨⟨zk_ok189, zm_ok189⟩, List.forall_mem_cons.mpr ⟨⟨zk_ok190, zm_ok190⟩, List.forall_mem_cons.mpr ⟨⟨zk_ok191, zm_ok191⟩, List.forall_mem_cons.mpr ⟨⟨zk_ok192, zm_ok192⟩, List.forall_mem_cons.mpr ⟨⟨zk_ok193, zm_ok193⟩, List.forall_mem_cons.mpr ⟨⟨zk_ok194, zm_ok194⟩, List.forall_mem_cons.mpr ⟨⟨zk_ok195, zm_ok195⟩, List.forall_mem_cons.mpr ⟨⟨zk_ok196, zm_ok196⟩, List.forall_mem_cons.mpr ⟨⟨zk_ok197, zm_ok197⟩, List.forall_mem_cons.mpr ⟨⟨zk_ok198, zm_ok198⟩, List.forall_mem_cons.mpr ⟨⟨zk_ok199, zm_ok199⟩, List.forall_mem_cons.mpr ⟨⟨zk_ok200, zm_ok200⟩, List.forall_mem_cons.mpr ⟨⟨zk_ok201, zm_ok201⟩, List.forall_mem_cons.mpr ⟨⟨zk_ok202, zm_ok202⟩, List.forall_mem_cons.mpr ⟨⟨zk_ok203, zm_ok203⟩, List.forall_mem_cons.mpr ⟨⟨zk_ok204, zm_ok204⟩, List.forall_mem_cons.mpr ⟨⟨zk_ok205, zm_ok205⟩, List.forall_mem_cons.mpr ⟨⟨zk_ok206, zm_ok206⟩, List.forall_mem_cons.mpr ⟨⟨zk_ok207, zm_ok207⟩, List.forall_mem_cons.mpr ⟨⟨zk_ok208, zm_ok208⟩, List.forall_mem_cons.mpr ⟨⟨zk_ok209, zm_ok209⟩, fun _ h => absurd h List.not_mem_nil⟩⟩⟩⟩⟩⟩⟩⟩⟩⟩⟩⟩⟩⟩⟩⟩⟩⟩⟩⟩⟩⟩⟩⟩⟩⟩⟩⟩⟩⟩⟩⟩⟩⟩⟩⟩⟩⟩⟩⟩⟩⟩⟩⟩⟩⟩⟩⟩⟩⟩⟩⟩⟩⟩⟩⟩⟩⟩⟩⟩⟩⟩⟩⟩⟩⟩⟩⟩⟩⟩⟩⟩⟩⟩⟩⟩⟩⟩⟩⟩⟩⟩⟩⟩⟩⟩⟩⟩⟩⟩⟩⟩⟩⟩⟩⟩⟩⟩⟩⟩⟩⟩⟩⟩⟩⟩⟩⟩⟩⟩⟩⟩⟩⟩⟩⟩⟩⟩⟩⟩⟩⟩⟩⟩
theorem zcode_at : ∀ (l : List (Option zC)) (y p0 k : Nat) (i : zC), zcode l y p0 = true → l.getD k none = some i → zone y (p0 + k) i = true
  | [], y, p0, k, i, h, hk => by simp at hk
  | none :: r, y, p0, 0, i, h, hk => by simp at hk
  | none :: r, y, p0, k + 1, i, h, hk => by
    have := zcode_at r y (p0 + 1) k i h (by simpa using hk)
    rwa [show p0 + (k + 1) = p0 + 1 + k by omega]
  | some j :: r, y, p0, 0, i, h, hk => by
    simp at hk
    subst hk
    simp only [zcode, Bool.and_eq_true] at h
    exact h.1
  | some j :: r, y, p0, k + 1, i, h, hk => by
    simp only [zcode, Bool.and_eq_true] at h
    have := zcode_at r y (p0 + 1) k i h.2 (by simpa using hk)
    rwa [show p0 + (k + 1) = p0 + 1 + k by omega]
theorem zfetch_ok {y pc : Nat} {i : zC} (h : zcode (zprog.getD y []) y 0 = true) (hf : zfetch y pc = some i) : zone y pc i = true := by
  have := zcode_at _ y 0 pc i h hf
  rwa [Nat.zero_add] at this
/-- where a method returns -/
def zRet (G : zG) (y : Nat) (p : Program) (l : Launch) (e : Env) (R : Room) (s : State) (m : MethodId) (args : Array Value) (below : List Frame) (meth : Method) (c : Code) (n0 m0 : Nat) (Q : State → Prop) (r : zV) (S' : zHp) : Prop :=
  ∀ (pc a : Nat) (ls st : List zV) (lm : Array Slot) (H : Heap) (locs : List Loc), zret_ok y a = true → decode (zby y) pc = .ok (zret_i a, 1) → zret a st = some r → zAt G y s lm H locs ls st S' →
    W p l e R s m args below meth c H locs (S'.2.1.length - n0) (zslots S' - m0) Q (F0 m pc lm (st.map (zcv G)))
theorem zargs_wf {as : List zV} (h : ∀ v ∈ as, zwf v) : ∀ v ∈ zargs as, zwf v := by
  induction as with
  | nil => intro v hv; cases hv
  | cons a t ih =>
    intro v hv
    have iht := ih (fun w hw => h w (List.mem_cons_of_mem _ hw))
    rw [zargs] at hv
    split at hv
    · rcases List.mem_cons.mp hv with q | q
      · rw [q]; exact h a List.mem_cons_self
      · rcases List.mem_cons.mp q with q | q
        · rw [q]; exact zwfJ
        · exact iht v q
    · rcases List.mem_cons.mp hv with q | q
      · rw [q]; exact h a List.mem_cons_self
      · exact iht v q
theorem zargs_len (G : zG) (hg : gf G = .null ∨ ∃ t, gf G = .ref t) : ∀ (as : List zV), (lg_sl (as.map (zcv G))).length = (zargs as).length
  | [] => rfl
  | a :: t => by
    have ih := zargs_len G hg t
    rw [List.map_cons, lg_sl, List.flatMap_cons, List.length_append, zargs, zcv_cat G a hg]
    unfold zcat
    by_cases h : a.1 = 1
    · rw [if_pos h, if_pos h, if_pos rfl]
      show 2 + (lg_sl (t.map (zcv G))).length = _
      rw [ih]; simp; omega
    · rw [if_neg h, if_neg h, if_neg (by decide)]
      show 1 + (lg_sl (t.map (zcv G))).length = _
      rw [ih]; simp; omega
theorem zloc_app (G : zG) : ∀ (a b : List zV) (i : Nat), zloc G i (a ++ b) = zloc G i a ++ zloc G (i + a.length) b
  | [], b, i => by simp [zloc]
  | v :: a, b, i => by
    have ih := zloc_app G a b (i + 1)
    rw [List.cons_append, zloc, zloc, ih, List.length_cons, show i + 1 + a.length = i + (a.length + 1) by omega]
    split <;> rfl
theorem zloc_junk (G : zG) : ∀ (k i : Nat), zloc G i (List.replicate k zJ) = []
  | 0, i => rfl
  | k + 1, i => by rw [List.replicate_succ, zloc, if_pos rfl]; exact zloc_junk G k (i + 1)
theorem zloc_args (G : zG) (hg : gf G = .null ∨ ∃ t, gf G = .ref t) : ∀ (as : List zV) (i : Nat), (∀ v ∈ as, v.1 ≠ 3) → zloc G i (zargs as) = lv_args i (as.map (zcv G))
  | [], i, _ => rfl
  | a :: t, i, h => by
    have h3 := h a List.mem_cons_self
    have ih := fun j => zloc_args G hg t j (fun v hv => h v (List.mem_cons_of_mem _ hv))
    rw [zargs, List.map_cons, lv_args, zcv_cat G a hg]
    unfold zcat
    by_cases h1 : a.1 = 1
    · rw [if_pos h1, if_pos h1, if_pos rfl, zloc, if_neg h3, zloc, if_pos rfl, ih]
    · rw [if_neg h1, if_neg h1, if_neg (by decide), zloc, if_neg h3, ih]
theorem zin2_all : (List.range 210).all (fun t => decide (zin t 2 < 8 ∨ zin t 2 = 90 ∨ zin t 2 = 99)) = true := by decide +kernel
theorem zin2_ok (t : Nat) (h : t < zMs.length) : zin t 2 < 8 ∨ zin t 2 = 90 ∨ zin t 2 = 99 := by
  have hl : zMs.length = 210 := by decide +kernel
  simpa using List.all_eq_true.mp zin2_all t (List.mem_range.mpr (by omega))
/-- what is called stands in the table -/
theorem zlv_all : (List.range 210).all (fun y => (zprog.getD y []).all fun o => match o with
  | some i => !(i.1 == 101) || zgood.contains i.2.2.1
  | none => true) = true := by decide +kernel
theorem zlv {y pc : Nat} {i : zC} (h : zfetch y pc = some i) (h1 : i.1 = 101) : i.2.2.1 ∈ zgood := by
  unfold zfetch at h
  by_cases hy : y < 210
  · have h3 := List.all_eq_true.mp zlv_all y (List.mem_range.mpr hy)
    rw [List.getD_eq_getElem?_getD (l := zprog.getD y [])] at h
    cases he : (zprog.getD y [])[pc]? with
    | none => rw [he] at h; cases h
    | some o =>
      rw [he] at h
      have ho : o = some i := h
      have h4 := List.all_eq_true.mp h3 o (List.mem_of_getElem? he)
      rw [ho] at h4
      simpa [h1] using h4
  · have hl : zprog.length = 210 := by decide +kernel
    rw [List.getD_eq_getElem?_getD (l := zprog), List.getElem?_eq_none (by omega)] at h
    simp at h
theorem zRet_met {G : zG} {y : Nat} {p : Program} {l : Launch} {e : Env} {R : Room} {s : State} {m : MethodId} {args : Array Value} {below : List Frame} {meth : Method} {c : Code} (n0 m0 : Nat) {r : zV} {S' : zHp} (cx : zCtx G y p s m args meth c) (hr : meth.sig.returnType = zrt y) (hlocks : meth.locks = false) :
    zRet G y p l e R s m args below meth c n0 m0 (MQ below (zQc G r S') args s (S'.2.1.length - n0) (zslots S' - m0) (zA G)) r S' := by
  intro pc a ls st lm H locs hok hd hz hat
  obtain ⟨hx, hb, hml, hown, hts, hfix, hnm⟩ := cx
  have hwr : zwf r := by
    have hw := hat.2.2.2.2.2
    unfold zret at hz
    split at hz
    · cases hz; exact zwfJ
    · cases hz; exact zwf_hd hw
    · cases hz; exact zwf_hd hw
    · split at hz <;> cases hz; exact zwf_hd hw
    · split at hz <;> cases hz; exact zwf_hd hw
    · split at hz <;> cases hz; exact zwf_hd hw
    · split at hz <;> cases hz; exact zwf_hd hw
    · cases hz
  have hq : ∀ (o : Option Value), zrv G r = o → ∀ t : State, t.heap = H → s.WarmedH t.vm → zQc G r S' args s (.returned o) t := fun o ho t ht hW => ⟨⟨by rw [ho], hwr⟩, by rw [ht]; exact hat.1, hat.2.1.F ht⟩
  have hf := hat.2.1.2.2
  unfold zret at hz
  split at hz
  · cases hz
    have h1 : zrt y = none := by simpa [zret_ok] using hok
    exact W.vret hx hb (hr.trans h1) (hq none rfl) hf hd hlocks
  · cases hz
    have h1 : zrt y = some .int := by simpa [zret_ok] using hok
    exact W.zret hx hb (hr.trans h1) rfl (hq _ rfl) hf hd hlocks
  · cases hz
    have h1 : zrt y = some .long := by simpa [zret_ok] using hok
    exact W.lret hx hb (hr.trans h1) (hq _ rfl) hf hd hlocks
  · rename_i x
    split at hz
    · cases hz
    · rename_i h0
      cases hz
      have h1 : ∃ ty, zrt y = some ty ∧ ((∃ n, ty = .object n) ∨ ∃ t, ty = .array t) := by
        have hok' : (match zrt y with
          | some (.object _) => true
          | some (.array _) => true
          | _ => false) = true := hok
        split at hok'
        · rename_i n h; exact ⟨_, h, Or.inl ⟨n, rfl⟩⟩
        · rename_i n h; exact ⟨_, h, Or.inr ⟨n, rfl⟩⟩
        · cases hok'
      obtain ⟨ty, h1, h1'⟩ := h1
      rw [List.map_cons, List.map_nil, zcv_ref h0]
      exact W.aret hx hb (hr.trans h1) h1' (Or.inr ⟨_, rfl⟩) (hq _ (by show some (zcv G (zR x)) = _; rw [zcv_ref h0])) hf hd hlocks
  · rename_i x
    split at hz
    · rename_i h0
      cases hz
      have h1 : zrt y = some .boolean := by simpa [zret_ok] using hok
      refine W.zret hx hb (hr.trans h1) ?_ (hq _ rfl) hf hd hlocks
      simp only [zbool, Bool.or_eq_true, decide_eq_true_eq] at h0
      rcases h0 with rfl | rfl <;> rfl
    · cases hz
  · rename_i x
    split at hz
    · rename_i h0
      cases hz
      have h1 : zrt y = some .char := by simpa [zret_ok] using hok
      refine W.zret hx hb (hr.trans h1) ?_ (hq _ rfl) hf hd hlocks
      show Value.int _ = _
      congr 1
      exact z_i2c h0
    · cases hz
  · rename_i x
    split at hz
    · rename_i h0
      cases hz
      have h1 : zrt y = some .byte := by simpa [zret_ok] using hok
      refine W.zret hx hb (hr.trans h1) ?_ (hq _ rfl) hf hd hlocks
      show Value.int _ = _
      congr 1
      apply Int32.toInt_inj.mp
      rw [Int8.toInt_toInt32, Int32.toInt_toInt8, z32 ⟨by omega, by omega⟩]
      exact Int.bmod_eq_of_le (by omega) (by omega)
    · cases hz
  · cases hz
theorem zF_kind {L : Nat} {a : Int} {k n : Nat} (h : zF L a = some (k, n)) : k = 100 ∨ 90 ≤ k ∧ k ≤ 93 := by
  unfold zF at h
  split at h
  · cases h; omega
  · split at h
    · cases h; omega
    · split at h
      · cases h; omega
      · split at h
        · cases h; omega
        · split at h
          · cases h; omega
          · split at h
            · cases h; omega
            · split at h
              · cases h; omega
              · split at h <;> cases h; omega
theorem zF_str {L : Nat} {a : Int} {n : Nat} (h : zF L a = some (90, n)) : a ≠ 0 ∧ a ≠ 1 ∧ (a < 10 ∨ 18 ≤ a ∧ a < 22) := by
  unfold zF at h
  split at h
  · cases h
  · split at h
    · cases h
    · split at h
      · exact ⟨by assumption, by assumption, Or.inl (by assumption)⟩
      · split at h
        · cases h
        · split at h
          · exact ⟨by assumption, by assumption, Or.inr ⟨by omega, by assumption⟩⟩
          · split at h
            · cases h
            · split at h
              · cases h
              · split at h <;> cases h
theorem zrev_map {α β : Type} (f : α → β) (l : List α) : (l.reverse.map f) = (l.map f).reverse := by rw [List.map_reverse]
theorem ex_walk (hall : ∀ t ∈ zgood, zOK t) (G : zG) : ∀ (n d y pc : Nat) (ls st : List zV) (S : zHp) (r : zV) (S' : zHp), zcode (zprog.getD y []) y 0 = true → ex n d y pc ls st S = some (r, S') →
    ∀ {p : Program} {l : Launch} {e : Env} {R : Room} {s : State} {m : MethodId} {args : Array Value} {below : List Frame} {meth : Method} {c : Code} {H : Heap} {locs : List Loc} {Q : State → Prop} {lm : Array Slot} (n0 m0 nF mF : Nat),
    zCtx G y p s m args meth c → R.cells = nF - n0 → R.slots = mF - m0 → d + 1 ≤ R.frames → 24 + 40 * d ≤ R.locals → zAt G y s lm H locs ls st S → n0 ≤ S.2.1.length → m0 ≤ zslots S → S'.2.1.length ≤ nF → zslots S' ≤ mF →
    zRet G y p l e R s m args below meth c n0 m0 Q r S' →
    W p l e R s m args below meth c H locs (S.2.1.length - n0) (zslots S - m0) Q (F0 m pc lm (st.map (zcv G))) := by
  intro n
  induction n with
  | zero => intro d y pc ls st S r S' hok h; cases h
  | succ n ih =>
    intro d y pc ls st S r S' hok h p l e R s m args below meth c H locs Q lm n0 m0 nF mF cx hRc hRs hRf hRl hat hn0 hm0 hnF hmF hret
    rw [ex] at h
    split at h
    · cases h
    · rename_i i hf
      have hz := zfetch_ok hok hf
      unfold zone at hz
      split at h
      · rename_i h100
        rw [if_pos h100] at hz
        simp only [Bool.and_eq_true] at hz
        simp only [Option.map_eq_some_iff] at h
        obtain ⟨q, h1, h2⟩ := h
        cases h2
        exact hret pc _ ls st lm H locs hz.1 (zdc_eq hz.2) h1 hat
      · rename_i h100
        rw [if_neg h100] at hz
        split at h
        · rename_i h101
          rw [if_pos h101] at hz
          split at h
          · cases h
          · rename_i d'
            split at h
            · cases h
            · rename_i as st1 hcall
              split at h
              · cases h
              · rename_i r1 S1 hex
                dsimp only at hz
                simp only [Bool.and_eq_true, beq_iff_eq, decide_eq_true_eq] at hz
                obtain ⟨⟨⟨⟨hlen, hnp⟩, htl⟩, ht0⟩, hk⟩ := hz
                have hn2 := zlv hf h101
                generalize htt : i.2.2.1 = t at *
                obtain ⟨hokt, hmt⟩ := hall t hn2
                have mono1 := ex_mono _ _ _ _ _ _ _ _ _ hex
                have mono2 := ex_mono _ _ _ _ _ _ _ _ _ h
                have hg := cx.2.2.2.2.2.1.2.2.2.2.2.2.2.1
                -- the call's arguments
                unfold zcall at hcall
                dsimp only at hcall
                rw [htt] at hcall
                split at hcall
                · rename_i hif
                  obtain ⟨hal, hsum, hargl, hrecv, hrefok⟩ := hif
                  cases hcall
                  generalize hnn : i.2.2.2.2.1.toNat = nn at *
                  have hst : st = (st.take nn) ++ st.drop nn := (List.take_append_drop nn st).symm
                  have hwst := hat.2.2.2.2.2
                  have hwas : ∀ v ∈ (st.take nn).reverse, zwf v := fun v hv => hwst v (List.mem_of_mem_take (List.mem_reverse.mp hv))
                  have hwrest : ∀ v ∈ st.drop nn, zwf v := fun v hv => hwst v (List.mem_of_mem_drop hv)
                  have hjunk : ∀ v ∈ (st.take nn).reverse, v.1 ≠ 3 := by
                    intro v hv
                    have := List.all_eq_true.mp hrefok v hv
                    simp only [zrefok, Bool.and_eq_true, Bool.not_eq_true', beq_eq_false_iff_ne, ne_eq, decide_eq_true_eq] at this
                    exact this.2
                  generalize has : (st.take nn).reverse = as at *
                  have htake : st.take nn = as.reverse := by rw [← has, List.reverse_reverse]
                  -- the callee's contract
                  have hmm := hmt
                  unfold zmeta at hmm
                  simp only [Bool.and_eq_true, decide_eq_true_eq] at hmm
                  obtain ⟨⟨⟨⟨⟨⟨⟨mcode, minit⟩, mplain⟩, mh1⟩, mh2⟩, mpar⟩, mml⟩, mkind⟩ := hmm
                  have hM : zMet G l d' t as S r1 S1 := by
                    refine Met.ofW (cc := zby t) (maxL := zml t) (ret := zrt t) mplain rfl ?_
                    intro p2 e2 s2 m2 args2 below2 meth2 c2 s₁ B hml2 hv
                    obtain ⟨rfl, hfix2, hrel2⟩ := hv
                    have hts2 : ∀ w ∈ zwords t, w.before (as.map (zcv G)).toArray s2 = true := atoms_spec (ws := zwords t) B.pre
                    have hnm2 : meth2.name = (zmn t).name := (name_of_methodNamed B.named B.method).1
                    have cx2 : zCtx G t p2 s2 m2 (as.map (zcv G)).toArray meth2 c2 := ⟨B.exec, B.bytes, hml2, findClass_of_methodNamed B.named, fun w hw => hts2 w (List.mem_cons_of_mem _ hw), hfix2, fun q => by rw [hnm2]; exact q⟩
                    have hle : (lg_sl (as.map (zcv G))).length ≤ zml t := by rw [zargs_len G hg]; exact hargl
                    have hl := lv_entry (as.map (zcv G)) hle
                    rw [lg_entry_eq]
                    generalize (lg_sl (as.map (zcv G)) ++ List.replicate (zml t - (lg_sl (as.map (zcv G))).length) Slot.unset).toArray = lm2 at hl ⊢
                    have hat2 : zAt G t s2 lm2 s2.heap [] (zentry t as) [] S := by
                      refine ⟨hrel2, va_S.rf, lv_mono hl ?_, ?_, ?_, fun v hv => by cases hv⟩
                      · intro q hq
                        unfold zentry at hq
                        rw [zloc_app, zloc_junk, List.append_nil, zloc_args G hg as 0 hjunk] at hq
                        exact hq
                      · unfold zentry; simp; omega
                      · intro v hv
                        unfold zentry at hv
                        rcases List.mem_append.mp hv with q | q
                        · exact zargs_wf hwas v q
                        · rw [List.eq_of_mem_replicate q]; exact zwfJ
                    have K := ih d' t 0 (zentry t as) [] S r1 S1 hokt hex (p := p2) (l := l) (e := e2) (R := zrm d' S S1) (s := s2) (m := m2) (args := (as.map (zcv G)).toArray) (below := below2) (meth := meth2) (c := c2) (H := s2.heap) (locs := []) (lm := lm2)
                      (Q := MQ below2 (zQc G r1 S1) (as.map (zcv G)).toArray s2 (S1.2.1.length - S.2.1.length) (zslots S1 - zslots S) (zA G)) S.2.1.length (zslots S) S1.2.1.length (zslots S1) cx2 rfl rfl (Nat.le_refl _) (Nat.le_refl _) hat2 (Nat.le_refl _) (Nat.le_refl _) (Nat.le_refl _) (Nat.le_refl _) (zRet_met _ _ cx2 B.returns B.notSynchronized)
                    rw [Nat.sub_self, Nat.sub_self] at K
                    exact K
                  -- behind the call
                  have hsumv : (((st.drop nn).map (zcv G)).map fun v => v.category).sum ≤ 8 := by rw [zsum_cat G hg]; exact hsum
                  have hmapst : st.map (zcv G) = (as.map (zcv G)).reverse ++ (st.drop nn).map (zcv G) := by
                    conv => lhs; rw [hst, htake]
                    rw [List.map_append, List.map_reverse]
                  have KK : ∀ (H1 : Heap) (locs1 : List Loc), zwf r1 → zRel G S1 H1 → va_S (zA G) s.heap H1 locs1 → W p l e R s m args below meth c H1 locs1 (S.2.1.length - n0 + (S1.2.1.length - S.2.1.length)) (zslots S - m0 + (zslots S1 - zslots S)) Q (F0 m (pc + 3) lm ((zrv G r1).toList ++ (st.drop nn).map (zcv G))) := by
                    intro H1 locs1 hr1 hrel1 hS1
                    rw [show S.2.1.length - n0 + (S1.2.1.length - S.2.1.length) = S1.2.1.length - n0 by omega, show zslots S - m0 + (zslots S1 - zslots S) = zslots S1 - m0 by omega]
                    have K := ih (d' + 1) y (pc + i.2.1) ls (if r1.1 = 3 then st.drop nn else r1 :: st.drop nn) S1 r S' hok h (p := p) (l := l) (e := e) (R := R) (s := s) (m := m) (args := args) (below := below) (meth := meth) (c := c) (H := H1) (locs := locs1) (lm := lm) (Q := Q) n0 m0 nF mF cx hRc hRs hRf hRl
                      ⟨hrel1, hS1, hat.2.2.1, hat.2.2.2.1, hat.2.2.2.2.1, by split; exact hwrest; exact zwf_cons hr1 hwrest⟩ (by omega) (by omega) hnF hmF hret
                    rw [hlen] at K
                    unfold zrv
                    split at K
                    · rename_i h3; rw [if_pos h3]; exact K
                    · rename_i h3; rw [if_neg h3]; exact K
                  have hroom : (zrm d' S S1).frames + 1 ≤ R.frames ∧ 8 + (zml t + 11) + (zrm d' S S1).locals ≤ R.locals := by
                    constructor
                    · show d' + 1 + 1 ≤ R.frames; omega
                    · show 8 + (zml t + 11) + (24 + 40 * d') ≤ R.locals; omega
                  have hcap : S.2.1.length - n0 + (S1.2.1.length - S.2.1.length) ≤ R.cells ∧ zslots S - m0 + (zslots S1 - zslots S) ≤ R.slots := by
                    constructor <;> omega
                  obtain ⟨hx, hb, hml, hown, hts, hfix, hnm⟩ := id cx
                  have S0 : CallFix p m c (zby y) (zml y) s args zTs (zmn y).cls := ⟨hx, hb, hml, hown, hts⟩
                  have hPc : ∀ U : State, U.heap = H → s.WarmedH U.vm → zPc G as S (as.map (zcv G)).toArray U := fun U hU hW => ⟨rfl, hfix.to hW (by rw [hU]; exact hat.2.1.1) (fun a h1 h2 => by rw [hU]; exact hat.2.1.2.1 a h1 h2), by rw [hU]; exact hat.1⟩
                  have hdesc : (zmn t).cls ≠ "java/lang/invoke/MethodHandle" ∧ (zmn t).cls ≠ "java/lang/invoke/VarHandle" ∧ (parseMethodDescriptor (zmn t).desc).map (fun d => d.parameters.length) = some (zin t 0) := ⟨mh1, mh2, mpar⟩
                  have hdesc2 : (zmn t).cls ≠ "java/lang/invoke/MethodHandle" ∧ (zmn t).cls ≠ "java/lang/invoke/VarHandle" ∧ (parseMethodDescriptor (zmn t).desc).map (fun d => d.parameters.length) = some (zin t 0) := hdesc
                  have hszl : lm.size = zml y := hat.2.2.1.1
                  rw [hmapst]
                  have hlas : as.length = nn := hal
                  have hrcv : ∀ kd : Nat, ¬ kd % 4 = 1 → zrecv S kd t as = true → ∃ (av : Int) (as' : List zV) (c1 n1 : Nat), as = (2, av) :: as' ∧ (zsh S av = some (c1, n1) ∧ (c1 = zin t 2 ∨ zin t 2 = 90 ∧ c1 = 7)) ∧ 0 ≤ av := by
                    intro kd hkd hr
                    unfold zrecv at hr
                    rw [if_neg hkd] at hr
                    split at hr
                    · rename_i av as'
                      split at hr
                      · rename_i c1 n1 hsh
                        have e : c1 = zin t 2 ∨ zin t 2 = 90 ∧ c1 = 7 := by simpa using hr
                        refine ⟨av, as', c1, n1, rfl, ⟨hsh, e⟩, ?_⟩
                        rcases Int.lt_or_le av 0 with q | q
                        · unfold zsh at hsh
                          rw [if_pos q] at hsh
                          cases hsh
                        · exact q
                      · cases hr
                    · cases hr
                  have hown7 : ∀ (av : Int) (c1 n1 : Nat), zsh S av = some (c1, n1) → c1 < 8 → ∃ cellB : Cell, H[zad G av]? = some cellB ∧ cellB.vm.isStatics = false ∧ s.vm.findClass (zCn c1) = some cellB.cls := by
                    intro av c1 n1 hsh h8
                    have h32 : 32 ≤ av := by
                      rcases Int.lt_or_le av 32 with q | q
                      · obtain ⟨-, hF⟩ := zsh_for hsh q
                        have := zF_kind hF
                        omega
                      · exact q
                    obtain ⟨g1, g2, g3⟩ := zsh_own (G := G) h32 hsh
                    have hget := zws_get (G := G) g1
                    rw [zcell_obj h8, ← g2, ← g3] at hget
                    obtain ⟨C, T, N, ty, hCl⟩ := zCl_all h8
                    have hC : zCn c1 = C := by
                      unfold zCn
                      rw [List.getD_eq_getElem?_getD, hCl.1]; rfl
                    rw [hC]
                    exact va_recv hfix.1 hat.1.2.1 hCl.1 hget
                  split at hk
                  · rename_i hkd
                    rw [hkd] at hrecv hnp
                    simp only [Bool.and_eq_true, beq_iff_eq, decide_eq_true_eq] at hk
                    obtain ⟨⟨⟨⟨hd, hlk⟩, hz1⟩, hni⟩, h9⟩ := hk
                    rw [if_neg (by rw [hz1]; decide)] at mkind
                    simp only [Bool.and_eq_true, Bool.or_eq_true, decide_eq_true_eq] at mkind
                    obtain ⟨minst, msel⟩ := mkind
                    obtain ⟨msel, mcl⟩ := msel.resolve_left (fun q => by
                      rcases q with q | q
                      · exact hni q
                      · rw [q] at h9; exact absurd h9 (by decide))
                    obtain ⟨av, as', c1, n1, rfl, ⟨hsh, hc1⟩, hav⟩ := hrcv 0 (by decide) hrecv
                    have hcell : ∃ cellB : Cell, H[zad G av]? = some cellB ∧ cellB.vm.isStatics = false ∧ s.vm.findClass (zmn t).cls = some cellB.cls := by
                      rcases hc1 with rfl | ⟨h90, rfl⟩
                      · rcases zin2_ok t htl with h8 | h90 | h99
                        · have := hown7 av _ n1 hsh h8
                          rw [← mcl]
                          unfold zclname
                          rw [if_pos h8]
                          exact this
                        · rw [h90] at hsh
                          obtain ⟨i', hi', hz2⟩ : ∃ i' : Nat, i' < 12 ∧ zad G av = gK G i' := by
                            rcases Int.lt_or_le av 32 with q | q
                            · obtain ⟨q0, hF⟩ := zsh_for hsh q
                              obtain ⟨f0, f1, f2⟩ := zF_str hF
                              rcases f2 with f2 | f2
                              · exact ⟨(av - 2).toNat, by omega, by rw [zad_for (by omega), if_neg (by omega), if_neg (by omega), if_pos (by omega)]⟩
                              · exact ⟨(av - 10).toNat, by omega, by rw [zad_for (by omega), if_neg (by omega), if_neg (by omega), if_neg (by omega), if_neg (by omega), if_pos (by omega)]⟩
                            · obtain ⟨g1, g2, g3⟩ := zsh_own (G := G) q hsh
                              have := (hat.1.2.2.2.2.2.2 _ _ _ g1).2.1
                              omega
                          rw [hz2, ← mcl]
                          unfold zclname
                          rw [if_neg (by rw [h90]; decide)]
                          exact vk_recv hfix.2.2.2.2.2.2.2.2.1 hi' hat.2.1
                        · rw [h99] at hsh
                          rcases Int.lt_or_le av 32 with q | q
                          · obtain ⟨-, hF⟩ := zsh_for hsh q
                            have := zF_kind hF
                            omega
                          · obtain ⟨g1, g2, g3⟩ := zsh_own (G := G) q hsh
                            have := (hat.1.2.2.2.2.2.2 _ _ _ g1).2.1
                            omega
                      · have := hown7 av 7 n1 hsh (by decide)
                        rw [← mcl]
                        unfold zclname
                        rw [if_neg (by rw [h90]; decide)]
                        exact this
                    have hzr : zcv G (2, av) = .ref (zad G av) := zcv_ref (by omega)
                    have hPc2 : ∀ U : State, U.heap = H → s.WarmedH U.vm → zPc G ((2, av) :: as') S (Value.ref (zad G av) :: as'.map (zcv G)).toArray U := by
                      intro U h1 h2
                      have := hPc U h1 h2
                      rwa [List.map_cons, hzr] at this
                    refine z_back (va_runV (As := as'.map (zcv G)) (rest := (st.drop nn).map (zcv G)) (C := (zmn t).cls) S0 hM (cwV (zin t 0) hts (z_good ?_) rfl rfl rfl ⟨rfl, hdesc⟩ hroom) ⟨zPc_blind _ _ _, hcell, hPc2⟩ rfl ?_ hszl ?_ (lv_room hsumv) (zdc_eq hd) hcap) hat.2.1 KK
                    · intro w hw
                      simp only [wsV, List.mem_append, List.mem_cons, List.not_mem_nil, or_false, zwords] at hw
                      rcases hw with (rfl | rfl | rfl | rfl) | rfl | hw
                      · exact zw_in hlk
                      · exact zw_in minst
                      · exact zw_in msel
                      · exact zw_in minit
                      · exact zw_in mcode
                      · exact hw
                    · rw [List.length_map]
                      rw [List.length_cons] at hlas
                      rw [if_neg (by decide)] at hnp
                      omega
                    · rw [List.map_cons, hzr, List.reverse_cons, List.append_assoc]; rfl
                  · rename_i hkd
                    rw [hkd] at hrecv hnp
                    simp only [Bool.and_eq_true, beq_iff_eq] at hk
                    obtain ⟨⟨hd, hlk⟩, hz1⟩ := hk
                    rw [if_pos hz1] at mkind
                    refine z_back (va_runS (As := as.map (zcv G)) (rest := (st.drop nn).map (zcv G)) S0 hM (va_cwS (zin t 0) hts (z_good ?_) rfl rfl rfl hdesc hroom) ⟨zPc_blind _ _ _, hPc⟩ rfl ?_ hszl rfl (lv_room hsumv) (zdc_eq hd) hcap) hat.2.1 KK
                    · intro w hw
                      simp only [va_wsS, List.mem_append, List.mem_cons, List.not_mem_nil, or_false, zwords] at hw
                      rcases hw with (rfl | rfl | rfl) | rfl | hw
                      · exact zw_in hlk
                      · exact zw_in mkind
                      · exact zw_in minit
                      · exact zw_in mcode
                      · exact hw
                    · rw [List.length_map]
                      rw [if_pos (by decide)] at hnp
                      omega
                  · rename_i hkd
                    rw [hkd] at hrecv hnp
                    simp only [Bool.and_eq_true, beq_iff_eq, decide_eq_true_eq] at hk
                    obtain ⟨⟨⟨⟨hd, hlk⟩, hz1⟩, hni⟩, hrt⟩ := hk
                    rw [if_neg (by rw [hz1]; decide)] at mkind
                    simp only [Bool.and_eq_true] at mkind
                    obtain ⟨av, as', c1, n1, rfl, ⟨hsh, hc1⟩, hav⟩ := hrcv 2 (by decide) hrecv
                    have hzr : zcv G (2, av) = .ref (zad G av) := zcv_ref (by omega)
                    have hPc2 : ∀ U : State, U.heap = H → s.WarmedH U.vm → zPc G ((2, av) :: as') S (Value.ref (zad G av) :: as'.map (zcv G)).toArray U := by
                      intro U h1 h2
                      have := hPc U h1 h2
                      rwa [List.map_cons, hzr] at this
                    have hwe : zwords t = Cond.code (zmn t) (zby t) (zml t) none :: zTs := by unfold zwords; rw [hrt]
                    refine z_back (va_runI (As := as'.map (zcv G)) (rest := (st.drop nn).map (zcv G)) S0 hM (cwI (zin t 0) hts (z_good ?_) hwe rfl rfl (hts _ (zw_in minit)) (hts _ (zw_in hlk)) (hts _ (zw_in mkind.1)) hni hdesc hroom) ⟨zPc_blind _ _ _, hPc2⟩ rfl ?_ hszl ?_ (lv_room hsumv) (zdc_eq hd) hcap) hat.2.1 KK
                    · intro w hw
                      rcases List.mem_cons.mp hw with rfl | hw
                      · exact zw_in mcode
                      · exact hw
                    · rw [List.length_map]
                      rw [List.length_cons] at hlas
                      rw [if_neg (by decide)] at hnp
                      omega
                    · rw [List.map_cons, hzr, List.reverse_cons, List.append_assoc]; rfl
                  · rename_i hkd
                    rw [hkd] at hrecv hnp
                    simp only [Bool.and_eq_true, beq_iff_eq, decide_eq_true_eq] at hk
                    obtain ⟨⟨⟨⟨hd, hlk⟩, hz1⟩, hni⟩, hrt⟩ := hk
                    rw [if_neg (by rw [hz1]; decide)] at mkind
                    simp only [Bool.and_eq_true] at mkind
                    obtain ⟨av, as', c1, n1, rfl, ⟨hsh, hc1⟩, hav⟩ := hrcv 6 (by decide) hrecv
                    have hzr : zcv G (2, av) = .ref (zad G av) := zcv_ref (by omega)
                    have hPc2 : ∀ U : State, U.heap = H → s.WarmedH U.vm → zPc G ((2, av) :: as') S (Value.ref (zad G av) :: as'.map (zcv G)).toArray U := by
                      intro U h1 h2
                      have := hPc U h1 h2
                      rwa [List.map_cons, hzr] at this
                    have hwe : zwords t = Cond.code (zmn t) (zby t) (zml t) none :: zTs := by unfold zwords; rw [hrt]
                    refine z_back (va_runIN (As := as'.map (zcv G)) (rest := (st.drop nn).map (zcv G)) S0 hM ⟨va_cnB (zin t 0) hts (z_good ?_) hwe rfl rfl (hfix.2.2.2.2.2.2.2.2.2.2.1 _ hlk) (hts _ (zw_in minit)) hdesc hroom, hni, hts _ (zw_in mkind.1)⟩ ⟨zPc_blind _ _ _, hPc2⟩ rfl ?_ hszl ?_ (lv_room hsumv) (zdc_eq hd) hcap) hat.2.1 KK
                    · intro w hw
                      rcases List.mem_cons.mp hw with rfl | hw
                      · exact zw_in mcode
                      · exact hw
                    · rw [List.length_map]
                      rw [List.length_cons] at hlas
                      rw [if_neg (by decide)] at hnp
                      omega
                    · rw [List.map_cons, hzr, List.reverse_cons, List.append_assoc]; rfl
                  · rename_i hkd
                    rw [hkd] at hrecv hnp
                    simp only [Bool.and_eq_true, Bool.not_eq_true', beq_iff_eq, decide_eq_true_eq] at hk
                    obtain ⟨⟨⟨⟨⟨⟨hd, hlk⟩, hz1⟩, hni⟩, hz6⟩, hsl⟩, hsm⟩ := hk
                    rw [if_neg (by rw [hz1]; decide)] at mkind
                    simp only [Bool.and_eq_true] at mkind
                    have minst := mkind.1
                    obtain ⟨av, as', c1, n1, rfl, ⟨hsh, hc1⟩, hav⟩ := hrcv 8 (by decide) hrecv
                    have e6 : c1 = 6 := by omega
                    subst e6
                    have hcell := hown7 av 6 n1 hsh (by decide)
                    have hzr : zcv G (2, av) = .ref (zad G av) := zcv_ref (by omega)
                    have hPc2 : ∀ U : State, U.heap = H → s.WarmedH U.vm → zPc G ((2, av) :: as') S (Value.ref (zad G av) :: as'.map (zcv G)).toArray U := by
                      intro U h1 h2
                      have := hPc U h1 h2
                      rwa [List.map_cons, hzr] at this
                    refine z_back (va_runU (As := as'.map (zcv G)) (rest := (st.drop nn).map (zcv G)) (C := RX6) (owner := (zmn t).cls) (x := zmn t) S0 hM (va_cwU (zin t 0) hts (z_good ?_) rfl rfl rfl rfl hdesc2 hroom) ⟨zPc_blind _ _ _, hcell, hPc2⟩ rfl ?_ hszl ?_ (lv_room hsumv) (zdc_eq hd) hcap) hat.2.1 KK
                    · intro w hw
                      simp only [va_wsU, List.mem_append, List.mem_cons, List.not_mem_nil, or_false, zwords] at hw
                      rcases hw with (rfl | rfl | rfl | rfl | rfl) | rfl | hw
                      · exact zw_in hlk
                      · exact zw_in hsm
                      · exact zw_in hsl
                      · exact zw_in minst
                      · exact zw_in minit
                      · exact zw_in mcode
                      · exact hw
                    · rw [List.length_map]
                      rw [List.length_cons] at hlas
                      rw [if_neg (by decide)] at hnp
                      omega
                    · rw [List.map_cons, hzr, List.reverse_cons, List.append_assoc]; rfl
                  · rename_i hkd
                    rw [hkd] at hrecv hnp
                    simp only [Bool.and_eq_true, Bool.not_eq_true', beq_iff_eq, decide_eq_true_eq] at hk
                    obtain ⟨⟨⟨⟨⟨⟨⟨⟨⟨⟨⟨hd, hlk⟩, hz1⟩, hni⟩, hz6⟩, hsl⟩, hsm⟩, hxi⟩, hxc⟩, hx1⟩, hx2⟩, hx3⟩ := hk
                    rw [if_neg (by rw [hz1]; decide)] at mkind
                    simp only [Bool.and_eq_true] at mkind
                    have minst := mkind.1
                    obtain ⟨av, as', c1, n1, rfl, ⟨hsh, hc1⟩, hav⟩ := hrcv 12 (by decide) hrecv
                    have e6 : c1 = 6 := by omega
                    subst e6
                    have hcell := hown7 av 6 n1 hsh (by decide)
                    have hzr : zcv G (2, av) = .ref (zad G av) := zcv_ref (by omega)
                    have hPc2 : ∀ U : State, U.heap = H → s.WarmedH U.vm → zPc G ((2, av) :: as') S (Value.ref (zad G av) :: as'.map (zcv G)).toArray U := by
                      intro U h1 h2
                      have := hPc U h1 h2
                      rwa [List.map_cons, hzr] at this
                    refine z_back (va_runU (As := as'.map (zcv G)) (rest := (st.drop nn).map (zcv G)) (C := RX6) (owner := (zmn _).cls) (x := zmn _) S0 hM (va_cwO (zin t 0) hts (z_good ?_) rfl rfl rfl (zw_in hxc) ⟨hx1, hx2, hx3⟩ hroom) ⟨zPc_blind _ _ _, hcell, hPc2⟩ rfl ?_ hszl ?_ (lv_room hsumv) (zdc_eq hd) hcap) hat.2.1 KK
                    · intro w hw
                      simp only [va_wsO, List.mem_append, List.mem_cons, List.not_mem_nil, or_false, zwords] at hw
                      rcases hw with (rfl | rfl | rfl | rfl | rfl | rfl) | rfl | hw
                      · exact zw_in hlk
                      · exact zw_in hsm
                      · exact zw_in hxi
                      · exact zw_in hsl
                      · exact zw_in minst
                      · exact zw_in minit
                      · exact zw_in mcode
                      · exact hw
                    · rw [List.length_map]
                      rw [List.length_cons] at hlas
                      rw [if_neg (by decide)] at hnp
                      omega
                    · rw [List.map_cons, hzr, List.reverse_cons, List.append_assoc]; rfl
                  · rename_i hkd
                    rw [hkd] at hrecv hnp
                    simp only [Bool.and_eq_true, Bool.not_eq_true', beq_iff_eq, decide_eq_true_eq] at hk
                    obtain ⟨⟨⟨⟨⟨⟨hd, hlk⟩, hz1⟩, hni⟩, hz6⟩, hsl⟩, hsm⟩ := hk
                    rw [if_neg (by rw [hz1]; decide)] at mkind
                    simp only [Bool.and_eq_true] at mkind
                    have minst := mkind.1
                    obtain ⟨av, as', c1, n1, rfl, ⟨hsh, hc1⟩, hav⟩ := hrcv 10 (by decide) hrecv
                    have e6 : c1 = 6 := by omega
                    subst e6
                    have hcell := hown7 av 6 n1 hsh (by decide)
                    have hzr : zcv G (2, av) = .ref (zad G av) := zcv_ref (by omega)
                    have hPc2 : ∀ U : State, U.heap = H → s.WarmedH U.vm → zPc G ((2, av) :: as') S (Value.ref (zad G av) :: as'.map (zcv G)).toArray U := by
                      intro U h1 h2
                      have := hPc U h1 h2
                      rwa [List.map_cons, hzr] at this
                    refine z_back (va_runSU (As := as'.map (zcv G)) (rest := (st.drop nn).map (zcv G)) (C := RX6) (hfix.1.1 6 _ rfl).2 S0 hM (va_cwSU (zin t 0) hts (z_good ?_) rfl rfl rfl ⟨hni, hdesc2.2.2⟩ hroom) ⟨zPc_blind _ _ _, hcell, hPc2⟩ rfl ?_ hszl ?_ (lv_room hsumv) (zdc_eq hd) hcap) hat.2.1 KK
                    · intro w hw
                      simp only [va_wsSU, List.mem_append, List.mem_cons, List.not_mem_nil, or_false, zwords] at hw
                      rcases hw with (rfl | rfl | rfl | rfl | rfl) | rfl | hw
                      · exact zw_in hlk
                      · exact zw_in hsm
                      · exact zw_in hsl
                      · exact zw_in minst
                      · exact zw_in minit
                      · exact zw_in mcode
                      · exact hw
                    · rw [List.length_map]
                      rw [List.length_cons] at hlas
                      rw [if_neg (by decide)] at hnp
                      omega
                    · rw [List.map_cons, hzr, List.reverse_cons, List.append_assoc]; rfl
                  · cases hk
                · cases hcall
        · rename_i h101
          rw [if_neg h101] at hz
          split at h
          · cases h
          · rename_i pc' ls' st' S2 hstep
            have mono := ex_mono _ _ _ _ _ _ _ _ _ h
            have m2 := zstep_mono _ _ _ _ _ _ hstep
            refine zp_step G y n0 m0 nF mF cx hRc hRs (by omega) (by omega) i pc ls st S lm pc' ls' st' S2 hz hstep hat hn0 hm0 (Nat.le_trans mono.1 hnF) (Nat.le_trans mono.2 hmF) (fun H' locs' lm' hat' => ?_)
            have m21 : S.2.1.length ≤ S2.2.1.length := m2.1
            have m22 : zslots S ≤ zslots S2 := m2.2.1
            exact ih d y pc' ls' st' S2 r S' hok h n0 m0 nF mF cx hRc hRs hRf hRl hat' (by omega) (by omega) hnF hmF hret
