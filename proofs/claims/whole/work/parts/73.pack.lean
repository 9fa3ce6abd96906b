/-! ===== packing: the search, whole, cut as the class cuts it, cut as the reference cuts it (mine) ===== -/
def iu {σ : Type} (g : Nat → σ → σ) : Nat → Nat → σ → σ
  | 0, _, st => st
  | r + 1, x, st => iu g r (x + 1) (g x st)
theorem iu_itr {σ : Type} (g : Nat → σ → σ) (st : σ) : ∀ r x, iu g r x (itr g x st) = itr g (x + r) st := by
  intro r
  induction r with
  | zero => intro x; rfl
  | succ r ih =>
    intro x
    show iu g r (x + 1) (itr g (x + 1) st) = _
    rw [ih (x + 1), show x + 1 + r = x + (r + 1) by omega]
def pL {σ : Type} (g : Nat → σ → σ) (l : Nat → Nat) : Nat → Nat → σ → σ
  | 0, _, st => st
  | r + 1, x, st => if l x = 0 then g x st else pL g l r (x + 1) (g x st)
def pU (H n : Nat) (w : Nat → Nat) : Nat → (Nat → Nat) → (Nat → Nat) → Nat → RS → RS
  | 0, f, _, g, st => if st.1 ≤ g then st else (g, f)
  | m + 1, f, l, g, st => itr (fun x st => pU H n w m (va_up f (n - (m + 1)) x) (va_up l x (l x + w (n - (m + 1)))) (max g (l x + w (n - (m + 1)))) st) H st
def pC (H n : Nat) (w : Nat → Nat) : Nat → (Nat → Nat) → (Nat → Nat) → Nat → RS → RS
  | 0, f, _, g, st => if st.1 ≤ g then st else (g, f)
  | m + 1, f, l, g, st => if st.1 ≤ g then st else pL (fun x st => pC H n w m (va_up f (n - (m + 1)) x) (va_up l x (l x + w (n - (m + 1)))) (max g (l x + w (n - (m + 1)))) st) l H 0 st
def pR (H n : Nat) (w : Nat → Nat) : Nat → (Nat → Nat) → (Nat → Nat) → Nat → RS → RS
  | 0, f, _, g, st => if st.1 ≤ g then st else (g, f)
  | m + 1, f, l, g, st => itr (fun x st => if st.1 ≤ l x + w (n - (m + 1)) then st else pR H n w m (va_up f (n - (m + 1)) x) (va_up l x (l x + w (n - (m + 1)))) (max g (l x + w (n - (m + 1)))) st) H st
def rc (H n : Nat) (w : Nat → Nat) (v : Nat) : Nat → (Nat → Nat) → Nat → Prop
  | 0, _, g => g ≤ v
  | m + 1, l, g => ∃ x, x < H ∧ rc H n w v m (va_up l x (l x + w (n - (m + 1)))) (max g (l x + w (n - (m + 1))))
section PK
variable {H n : Nat} {w : Nat → Nat}
theorem rc_ge {v : Nat} : ∀ m l g, rc H n w v m l g → g ≤ v := by
  intro m
  induction m with
  | zero => intro l g h; exact h
  | succ m ih =>
    intro l g h
    obtain ⟨x, _, q⟩ := h
    exact Nat.le_trans (Nat.le_max_left _ _) (ih _ _ q)
theorem pU_le : ∀ m f l g st, (pU H n w m f l g st).1 ≤ st.1 := by
  intro m
  induction m with
  | zero =>
    intro f l g st
    show (if st.1 ≤ g then st else (g, f)).1 ≤ st.1
    split
    · exact Nat.le_refl _
    · show g ≤ st.1; omega
  | succ m ih =>
    intro f l g st
    exact itr_le (fun x st => ih _ _ _ st) H st
theorem itr_up {g : Nat → RS → RS} (h : ∀ x st, (g x st).1 ≤ st.1) (st : RS) {x : Nat} : ∀ r, (itr g (x + r) st).1 ≤ (itr g x st).1 := by
  intro r
  induction r with
  | zero => exact Nat.le_refl _
  | succ r ih => exact Nat.le_trans (h (x + r) _) ih
theorem pU_rc {v : Nat} : ∀ m f l g st, rc H n w v m l g → (pU H n w m f l g st).1 ≤ v := by
  intro m
  induction m with
  | zero =>
    intro f l g st h
    have h : g ≤ v := h
    show (if st.1 ≤ g then st else (g, f)).1 ≤ v
    split
    · omega
    · exact h
  | succ m ih =>
    intro f l g st h
    obtain ⟨x, hx, q⟩ := h
    have a := itr_up (g := fun x st => pU H n w m (va_up f (n - (m + 1)) x) (va_up l x (l x + w (n - (m + 1)))) (max g (l x + w (n - (m + 1)))) st) (fun x st => pU_le m _ _ _ st) st (x := x + 1) (H - (x + 1))
    rw [show x + 1 + (H - (x + 1)) = H by omega] at a
    exact Nat.le_trans a (ih _ _ _ _ q)
theorem pU_no : ∀ m f l g st, (∀ v, rc H n w v m l g → st.1 ≤ v) → pU H n w m f l g st = st := by
  intro m
  induction m with
  | zero =>
    intro f l g st h
    show (if st.1 ≤ g then st else (g, f)) = st
    rw [if_pos (h g (Nat.le_refl g))]
  | succ m ih =>
    intro f l g st h
    have q : ∀ k, k ≤ H → itr (fun x st => pU H n w m (va_up f (n - (m + 1)) x) (va_up l x (l x + w (n - (m + 1)))) (max g (l x + w (n - (m + 1)))) st) k st = st := by
      intro k
      induction k with
      | zero => intro _; rfl
      | succ k ihk =>
        intro hk
        show pU H n w m _ _ _ (itr _ k st) = st
        rw [ihk (by omega)]
        exact ih _ _ _ _ (fun v z => h v ⟨k, by omega, z⟩)
    exact q H (Nat.le_refl _)
theorem pU_id (m : Nat) (f l : Nat → Nat) (g : Nat) (st : RS) (h : st.1 ≤ g) : pU H n w m f l g st = st := pU_no m f l g st (fun _ z => Nat.le_trans h (rc_ge m l g z))
def tr (a b j : Nat) : Nat := if j = a then b else if j = b then a else j
theorem tr_tr (a b j : Nat) : tr a b (tr a b j) = j := by
  unfold tr
  by_cases h1 : j = a
  · rw [if_pos h1]
    by_cases h2 : b = a
    · rw [if_pos h2]; omega
    · rw [if_neg h2, if_pos rfl]; omega
  · rw [if_neg h1]
    by_cases h2 : j = b
    · rw [if_pos h2, if_pos rfl]; omega
    · rw [if_neg h2, if_neg h1, if_neg h2]
theorem tr_lt {a b j : Nat} (ha : a < H) (hb : b < H) (hj : j < H) : tr a b j < H := by
  unfold tr
  (repeat' split) <;> omega
theorem rc_tr {v a b : Nat} (ha : a < H) (hb : b < H) : ∀ m l g, rc H n w v m l g → rc H n w v m (fun j => l (tr a b j)) g := by
  intro m
  induction m with
  | zero => intro l g h; exact h
  | succ m ih =>
    intro l g h
    obtain ⟨x, hx, q⟩ := h
    refine ⟨tr a b x, tr_lt ha hb hx, ?_⟩
    have e := ih _ _ q
    have ef : (fun j => va_up l x (l x + w (n - (m + 1))) (tr a b j)) = va_up (fun j => l (tr a b j)) (tr a b x) (l (tr a b (tr a b x)) + w (n - (m + 1))) := by
      funext j
      rw [tr_tr]
      by_cases c : j = tr a b x
      · rw [c, tr_tr, up_s, up_s]
      · rw [up_n _ _ c, up_n]
        intro z
        exact c (by rw [← z, tr_tr])
    rw [ef] at e
    rw [tr_tr] at e
    show rc H n w v m (va_up (fun j => l (tr a b j)) (tr a b x) (l (tr a b (tr a b x)) + w (n - (m + 1)))) (max g (l (tr a b (tr a b x)) + w (n - (m + 1))))
    rw [tr_tr]
    exact e
def Pf (H : Nat) (l : Nat → Nat) : Prop := ∀ x y, x < y → y < H → l x = 0 → l y = 0
theorem Pf_up {l : Nat → Nat} (p : Pf H l) {x v : Nat} (hx : ∀ a, a < x → l a ≠ 0) : Pf H (va_up l x (l x + v)) := by
  intro a b hab hb h0
  by_cases ea : a = x
  · rw [ea, up_s] at h0
    rw [up_n _ _ (by omega)]
    exact p a b hab hb (by rw [ea]; omega)
  · rw [up_n _ _ ea] at h0
    have : ¬ a < x := fun z => hx a z h0
    rw [up_n _ _ (by omega)]
    exact p a b hab hb h0
theorem iu_no {g : Nat → RS → RS} {st : RS} : ∀ r x, (∀ y, x ≤ y → y < x + r → g y st = st) → iu g r x st = st := by
  intro r
  induction r with
  | zero => intro x _; rfl
  | succ r ih =>
    intro x h
    show iu g r (x + 1) (g x st) = st
    rw [h x (Nat.le_refl _) (by omega)]
    exact ih (x + 1) (fun y h1 h2 => h y (by omega) (by omega))
theorem pL_iu {g g' : Nat → RS → RS} {l : Nat → Nat} : ∀ r x st, x + r = H → (∀ a, a < x → l a ≠ 0) → (∀ y st, y < H → (∀ a, a < y → l a ≠ 0) → g y st = g' y st) → (∀ x y st, x < y → y < H → l x = 0 → g' y (g' x st) = g' x st) → pL g l r x st = iu g' r x st := by
  intro r
  induction r with
  | zero => intro x st _ _ _ _; rfl
  | succ r ih =>
    intro x st hr ha hg hn
    show (if l x = 0 then g x st else pL g l r (x + 1) (g x st)) = iu g' r (x + 1) (g' x st)
    rw [hg x st (by omega) ha]
    by_cases c : l x = 0
    · rw [if_pos c]
      exact (iu_no r (x + 1) (fun y h1 h2 => hn x y st (by omega) (by omega) c)).symm
    · rw [if_neg c]
      refine ih (x + 1) _ (by omega) (fun a h => ?_) hg hn
      rcases Nat.lt_or_ge a x with z | z
      · exact ha a z
      · obtain rfl : a = x := by omega
        exact c
theorem pC_pU : ∀ m f l g st, Pf H l → pC H n w m f l g st = pU H n w m f l g st := by
  intro m
  induction m with
  | zero => intro f l g st _; rfl
  | succ m ih =>
    intro f l g st p
    show (if st.1 ≤ g then st else pL (fun x st => pC H n w m (va_up f (n - (m + 1)) x) (va_up l x (l x + w (n - (m + 1)))) (max g (l x + w (n - (m + 1)))) st) l H 0 st) = _
    by_cases c : st.1 ≤ g
    · rw [if_pos c, pU_id _ _ _ _ _ c]
    · rw [if_neg c]
      rw [pL_iu (H := H) (g' := fun x st => pU H n w m (va_up f (n - (m + 1)) x) (va_up l x (l x + w (n - (m + 1)))) (max g (l x + w (n - (m + 1)))) st) H 0 st (by omega) (fun a h => by omega) (fun y st hy ha => ih _ _ _ _ (Pf_up p ha)) (fun x y st hxy hy h0 => ?_)]
      · have := iu_itr (fun x st => pU H n w m (va_up f (n - (m + 1)) x) (va_up l x (l x + w (n - (m + 1)))) (max g (l x + w (n - (m + 1)))) st) st H 0
        rw [Nat.zero_add] at this
        exact this
      · show pU H n w m _ _ _ (pU H n w m _ _ _ st) = pU H n w m _ _ _ st
        refine pU_no _ _ _ _ _ (fun v z => ?_)
        have ly := p x y hxy hy h0
        refine pU_rc _ _ _ _ _ ?_
        have t := rc_tr (by omega : x < H) hy m _ _ z
        rw [ly] at t
        rw [h0]
        have ef : (fun j => va_up l y (0 + w (n - (m + 1))) (tr x y j)) = va_up l x (0 + w (n - (m + 1))) := by
          funext j
          unfold tr
          by_cases c1 : j = x
          · rw [if_pos c1, up_s, c1, up_s]
          · rw [if_neg c1, up_n _ _ c1]
            by_cases c2 : j = y
            · rw [if_pos c2, up_n _ _ (by omega), c2, ly, h0]
            · rw [if_neg c2, up_n _ _ c2]
        rw [ef] at t
        exact t
theorem pR_pU : ∀ m f l g st, pR H n w m f l g st = pU H n w m f l g st := by
  intro m
  induction m with
  | zero => intro f l g st; rfl
  | succ m ih =>
    intro f l g st
    show itr (fun x st => if st.1 ≤ l x + w (n - (m + 1)) then st else pR H n w m (va_up f (n - (m + 1)) x) (va_up l x (l x + w (n - (m + 1)))) (max g (l x + w (n - (m + 1)))) st) H st = itr (fun x st => pU H n w m (va_up f (n - (m + 1)) x) (va_up l x (l x + w (n - (m + 1)))) (max g (l x + w (n - (m + 1)))) st) H st
    have e : (fun (x : Nat) (st : RS) => if st.1 ≤ l x + w (n - (m + 1)) then st else pR H n w m (va_up f (n - (m + 1)) x) (va_up l x (l x + w (n - (m + 1)))) (max g (l x + w (n - (m + 1)))) st) = (fun x st => pU H n w m (va_up f (n - (m + 1)) x) (va_up l x (l x + w (n - (m + 1)))) (max g (l x + w (n - (m + 1)))) st) := by
      funext x st
      by_cases c : st.1 ≤ l x + w (n - (m + 1))
      · rw [if_pos c, pU_id _ _ _ _ _ (Nat.le_trans c (Nat.le_max_right _ _))]
      · rw [if_neg c, ih]
    rw [e]
theorem pR_le (m : Nat) (f l : Nat → Nat) (g : Nat) (st : RS) : (pR H n w m f l g st).1 ≤ st.1 := by
  rw [pR_pU]
  exact pU_le m f l g st
theorem pC_le : ∀ m f l g st, (pC H n w m f l g st).1 ≤ st.1 := by
  intro m
  induction m with
  | zero => intro f l g st; exact pU_le (H := H) (n := n) (w := w) 0 f l g st
  | succ m ih =>
    intro f l g st
    show (if st.1 ≤ g then st else pL (fun x st => pC H n w m (va_up f (n - (m + 1)) x) (va_up l x (l x + w (n - (m + 1)))) (max g (l x + w (n - (m + 1)))) st) l H 0 st).1 ≤ st.1
    split
    · exact Nat.le_refl _
    · have q : ∀ (gg : Nat → RS → RS), (∀ x st, (gg x st).1 ≤ st.1) → ∀ r x st, (pL gg l r x st).1 ≤ st.1 := by
        intro gg hg r
        induction r with
        | zero => intro x st; exact Nat.le_refl _
        | succ r ihr =>
          intro x st
          show (if l x = 0 then gg x st else pL gg l r (x + 1) (gg x st)).1 ≤ st.1
          split
          · exact hg x st
          · exact Nat.le_trans (ihr _ _) (hg x st)
      exact q _ (fun x st => ih _ _ _ st) H 0 st
/-- something is found -/
theorem rc_some (h1 : 1 ≤ H) {v : Nat} : ∀ m l g, m ≤ n → (∀ k, k < n → w k ≤ 29) → l 0 + 29 * m ≤ v → g ≤ v → rc H n w v m l g := by
  intro m
  induction m with
  | zero => intro l g _ _ _ h; exact h
  | succ m ih =>
    intro l g hm hw hl hg
    have := hw (n - (m + 1)) (by omega)
    refine ⟨0, by omega, ih _ _ (by omega) hw ?_ ?_⟩
    · rw [up_s]; omega
    · exact Nat.max_le.mpr ⟨hg, by omega⟩
end PK
def wt (s : Sv) (k : Nat) : Nat := s 8 k + s 2 k
/-- what a packing answers -/
def pkS (s : Sv) (n : Nat) : RS := pU (s 18 0) n (wt s) n (fun _ => 0) (fun _ => 0) 0 (1000000, fun _ => 0)
theorem pkS_lt {s : Sv} {n : Nat} (hn : n ≤ 8) (h1 : 1 ≤ s 18 0) (hw : ∀ k, k < n → wt s k ≤ 29) : (pkS s n).1 ≤ 232 := pU_rc _ _ _ _ _ (rc_some h1 n _ _ (Nat.le_refl _) hw (by show 0 + 29 * n ≤ 232; omega) (by omega))
