/-! ===== the search, as a function: all orders of picking up, all orders of coming to WORK, the first best kept ===== -/
abbrev DD : Type := (Nat → Nat → Int) × (Nat → Nat) × (Nat → Nat) × (Nat → Int) × (Nat → Int) × (Nat → Int)
abbrev dl (D : DD) : Nat → Nat → Int := D.1
abbrev dh (D : DD) : Nat → Nat := D.2.1
abbrev dw (D : DD) : Nat → Nat := D.2.2.1
abbrev de (D : DD) : Nat → Int := D.2.2.2.1
abbrev da (D : DD) : Nat → Int := D.2.2.2.2.1
abbrev dg (D : DD) : Nat → Int := D.2.2.2.2.2
def okD (D : DD) : Prop := (∀ a b, a < 10 → b < 10 → 0 ≤ dl D a b ∧ dl D a b ≤ 300) ∧ ∀ p, p < 9 → dh D p < 10 ∧ dw D p < 10 ∧ (0 ≤ de D p ∧ de D p ≤ 1440) ∧ (0 ≤ da D p ∧ da D p ≤ 1440) ∧ (0 ≤ dg D p ∧ dg D p ≤ 600)
abbrev BB : Type := Option (Int × Int × List Nat × List Nat × (Nat → Int) × (Nat → Int))
def tot (b : BB) : Int := match b with
  | none => 1441
  | some r => r.1
def fsts (D : DD) (ua : Nat → Int) (M : List Nat) : Int := M.foldl (fun x p => if x < de D p - ua p then de D p - ua p else x) 0
def lsts (D : DD) (t : Nat → Int) (M : List Nat) (all : Int) : Int := M.foldl (fun x p => if da D p - t p < x then da D p - t p else x) (1440 - all)
def goodW (D : DD) (U : List Nat) (ua t : Nat → Int) (all : Int) : Prop := (∀ p ∈ U, t p - ua p ≤ dg D p) ∧ fsts D ua U ≤ lsts D t U all
theorem up_s {α : Type} {f : Nat → α} {k : Nat} {v : α} : va_up f k v k = v := by simp [va_up]
theorem up_n {α : Type} {f : Nat → α} {k j : Nat} {v : α} (h : j ≠ k) : va_up f k v j = f j := by simp [va_up, h]
theorem fmax_le {D : DD} {ua : Nat → Int} : ∀ (M : List Nat) (x0 x : Int), M.foldl (fun x p => if x < de D p - ua p then de D p - ua p else x) x0 ≤ x ↔ x0 ≤ x ∧ ∀ p ∈ M, de D p - ua p ≤ x
  | [], x0, x => by simp
  | q :: M, x0, x => by
    rw [List.foldl_cons, fmax_le M]
    simp only [List.mem_cons, forall_eq_or_imp]
    split <;> constructor
    · rintro ⟨h1, h2⟩
      exact ⟨by omega, h1, h2⟩
    · rintro ⟨h1, h2, h3⟩
      exact ⟨h2, h3⟩
    · rintro ⟨h1, h2⟩
      exact ⟨h1, by omega, h2⟩
    · rintro ⟨h1, h2, h3⟩
      exact ⟨h1, h3⟩
theorem fmin_le {D : DD} {t : Nat → Int} : ∀ (M : List Nat) (x0 x : Int), x ≤ M.foldl (fun x p => if da D p - t p < x then da D p - t p else x) x0 ↔ x ≤ x0 ∧ ∀ p ∈ M, x ≤ da D p - t p
  | [], x0, x => by simp
  | q :: M, x0, x => by
    rw [List.foldl_cons, fmin_le M]
    simp only [List.mem_cons, forall_eq_or_imp]
    split <;> constructor
    · rintro ⟨h1, h2⟩
      exact ⟨by omega, h1, h2⟩
    · rintro ⟨h1, h2, h3⟩
      exact ⟨h2, h3⟩
    · rintro ⟨h1, h2⟩
      exact ⟨h1, by omega, h2⟩
    · rintro ⟨h1, h2, h3⟩
      exact ⟨h1, h3⟩
theorem fsts_le {D : DD} {ua : Nat → Int} {M : List Nat} {x : Int} : fsts D ua M ≤ x ↔ 0 ≤ x ∧ ∀ p ∈ M, de D p - ua p ≤ x := fmax_le M 0 x
theorem le_lsts {D : DD} {t : Nat → Int} {M : List Nat} {all x : Int} : x ≤ lsts D t M all ↔ x ≤ 1440 - all ∧ ∀ p ∈ M, x ≤ da D p - t p := fmin_le M (1440 - all) x
noncomputable def leafS (D : DD) (U Dl : List Nat) (ua t : Nat → Int) (all : Int) (b : BB) : BB :=
  @ite _ (all < tot b ∧ goodW D U ua t all) (Classical.propDecidable _) (some (all, lsts D t U all, U, Dl, ua, t)) b
theorem leafS_y {D : DD} {U Dl : List Nat} {ua t : Nat → Int} {all : Int} {b : BB} (h : all < tot b ∧ goodW D U ua t all) : leafS D U Dl ua t all b = some (all, lsts D t U all, U, Dl, ua, t) := if_pos h
theorem leafS_n {D : DD} {U Dl : List Nat} {ua t : Nat → Int} {all : Int} {b : BB} (h : ¬ (all < tot b ∧ goodW D U ua t all)) : leafS D U Dl ua t all b = b := if_neg h
noncomputable def dropS (D : DD) (U : List Nat) (ua : Nat → Int) : Nat → List Nat → List Nat → (Nat → Int) → Int → Nat → BB → BB
  | 0, _, Dl, t, at_, _, b => leafS D U Dl ua t at_ b
  | f + 1, rem, Dl, t, at_, stop, b => rem.foldl (fun b p => dropS D U ua f (rem.erase p) (Dl ++ [p]) (va_up t p (at_ + dl D stop (dw D p))) (at_ + dl D stop (dw D p)) (dw D p) b) b
noncomputable def pickS (D : DD) (M : List Nat) : Nat → List Nat → List Nat → (Nat → Int) → Int → Nat → BB → BB
  | 0, _, U, ua, at_, cur, b => dropS D U ua M.length M [] (fun _ => 0) at_ (dh D cur) b
  | f + 1, rem, U, ua, at_, cur, b => rem.foldl (fun b p => pickS D M f (rem.erase p) (U ++ [p]) (va_up ua p (at_ + dl D (dh D cur) (dh D p))) (at_ + dl D (dh D cur) (dh D p)) p b) b
noncomputable def bestS (D : DD) (M : List Nat) (d : Nat) : BB := pickS D M (M.length - 1) (M.erase d) [d] (fun _ => 0) 0 d none
theorem fold_id {α : Type} {F : BB → α → BB} : ∀ {l : List α} {b : BB}, (∀ p ∈ l, F b p = b) → l.foldl F b = b
  | [], b, _ => rfl
  | q :: l, b, h => by
    rw [List.foldl_cons, h q List.mem_cons_self]
    exact fold_id (fun p hp => h p (List.mem_cons_of_mem _ hp))
/-- nothing below can be better -/
def deadS (D : DD) (U : List Nat) (ua : Nat → Int) (Dl : List Nat) (t : Nat → Int) (at_ : Int) (b : BB) : Prop :=
  tot b ≤ at_ ∨ (∃ p, p ∈ Dl ∧ p ∈ U ∧ dg D p < t p - ua p) ∨ (∃ p q, p ∈ U ∧ q ∈ Dl ∧ q ∈ U ∧ da D q - t q < de D p - ua p)
theorem leaf_dead {D : DD} {U Dl : List Nat} {ua t : Nat → Int} {all : Int} {b : BB} (h : deadS D U ua Dl t all b) : leafS D U Dl ua t all b = b := by
  refine leafS_n (fun hg => ?_)
  obtain ⟨h1, h2, h3⟩ := hg
  rcases h with h | ⟨p, hp, hu, h⟩ | ⟨p, q, hp, hq, hqu, h⟩
  · omega
  · have := h2 p hu
    omega
  · have h4 := (fsts_le.mp (Int.le_refl (fsts D ua U))).2 p hp
    have h5 := (le_lsts.mp (Int.le_refl (lsts D t U all))).2 q hqu
    omega
theorem drop_dead {D : DD} (hD : okD D) {U : List Nat} {ua : Nat → Int} : ∀ (f : Nat) (rem Dl : List Nat) (t : Nat → Int) (at_ : Int) (stop : Nat) (b : BB), stop < 10 → (∀ p ∈ rem, p < 9) → (∀ p ∈ Dl, p ∉ rem) → rem.Nodup → deadS D U ua Dl t at_ b → dropS D U ua f rem Dl t at_ stop b = b
  | 0, rem, Dl, t, at_, stop, b, _, _, _, _, h => leaf_dead h
  | f + 1, rem, Dl, t, at_, stop, b, hs, hr, hd, hn, h => by
    unfold dropS
    refine fold_id (fun p hp => ?_)
    have hp9 := hr p hp
    have hw := (hD.2 p hp9).2.1
    have hl := (hD.1 stop (dw D p) hs hw).1
    refine drop_dead hD f (rem.erase p) (Dl ++ [p]) _ _ _ b hw (fun q hq => hr q (List.mem_of_mem_erase hq)) (fun q hq hq2 => ?_) (hn.erase p) ?_
    · rcases List.mem_append.mp hq with h1 | h1
      · exact hd q h1 (List.mem_of_mem_erase hq2)
      · rw [List.mem_singleton.mp h1] at hq2
        exact hn.not_mem_erase hq2
    · have keep : ∀ q, q ∈ Dl → va_up t p (at_ + dl D stop (dw D p)) q = t q := fun q hq => up_n (fun e => hd q hq (e ▸ hp))
      rcases h with h | ⟨q, hq, hu, h⟩ | ⟨q, r, hq, hr2, hru, h⟩
      · exact Or.inl (by omega)
      · exact Or.inr (Or.inl ⟨q, List.mem_append_left _ hq, hu, by rw [keep q hq]; exact h⟩)
      · exact Or.inr (Or.inr ⟨q, r, hq, List.mem_append_left _ hr2, hru, by rw [keep r hr2]; exact h⟩)
theorem pick_dead {D : DD} (hD : okD D) {M : List Nat} (hM : ∀ p ∈ M, p < 9) (hMn : M.Nodup) : ∀ (f : Nat) (rem U : List Nat) (ua : Nat → Int) (at_ : Int) (cur : Nat) (b : BB), cur < 9 → (∀ p ∈ rem, p < 9) → tot b ≤ at_ → pickS D M f rem U ua at_ cur b = b
  | 0, rem, U, ua, at_, cur, b, hc, _, h => by
    unfold pickS
    exact drop_dead hD _ _ _ _ _ _ _ (hD.2 cur hc).1 hM (fun p hp => by cases hp) hMn (Or.inl h)
  | f + 1, rem, U, ua, at_, cur, b, hc, hr, h => by
    unfold pickS
    refine fold_id (fun p hp => ?_)
    have hl := (hD.1 (dh D cur) (dh D p) (hD.2 cur hc).1 (hD.2 p (hr p hp)).1).1
    exact pick_dead hD hM hMn f _ _ _ _ p b (hr p hp) (fun q hq => hr q (List.mem_of_mem_erase hq)) (by omega)
