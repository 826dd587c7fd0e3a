/-! what a computation comes to -/
def zwp {β : Type} (x : Option β) (P : β → Prop) : Prop := ∃ b, x = some b ∧ P b
theorem zwp_g {β : Type} {c : Prop} [Decidable c] {x : Option β} {P : β → Prop} (hc : c) (h : zwp x P) : zwp (zg c x) P := by
  unfold zg
  rw [if_pos hc]
  exact h
theorem zwp_i {β : Type} {c : Prop} [Decidable c] {x y : Option β} {P : β → Prop} (ht : c → zwp x P) (hf : ¬ c → zwp y P) : zwp (zi c x y) P := by
  unfold zi
  by_cases hc : c
  · rw [if_pos hc]; exact ht hc
  · rw [if_neg hc]; exact hf hc
theorem zwp_t {β : Type} {c : Prop} [Decidable c] {x y : Option β} {P : β → Prop} (hc : c) (h : zwp x P) : zwp (zi c x y) P := by
  unfold zi
  rw [if_pos hc]
  exact h
theorem zwp_f {β : Type} {c : Prop} [Decidable c] {x y : Option β} {P : β → Prop} (hc : ¬ c) (h : zwp y P) : zwp (zi c x y) P := by
  unfold zi
  rw [if_neg hc]
  exact h
theorem zwp_l {α β : Type} {x : α} {f : α → Option β} {P : β → Prop} (h : zwp (f x) P) : zwp (zl x f) P := h
theorem zwp_n {α β : Type} {x : α} {f : α → Option β} {P : β → Prop} (h : ∀ y, y = x → zwp (f y) P) : zwp (zl x f) P := h x rfl
theorem zwp_c {α β : Type} {x : Option α} {f : α → Option β} {P : β → Prop} (R : α → Prop) (hx : zwp x R) (h : ∀ a, R a → zwp (f a) P) : zwp (zc x f) P := by
  obtain ⟨a, rfl, ha⟩ := hx
  exact h a ha
theorem zwp_2 {α γ β : Type} {x : Option (α × γ)} {f : α → γ → Option β} {P : β → Prop} (R : α × γ → Prop) (hx : zwp x R) (h : ∀ a b, R (a, b) → zwp (f a b) P) : zwp (zc2 x f) P := by
  obtain ⟨⟨a, b⟩, rfl, ha⟩ := hx
  exact h a b ha
theorem zwp_ce {α β : Type} {x : Option α} {f : α → Option β} {P : β → Prop} {a : α} (hx : x = some a) (h : zwp (f a) P) : zwp (zc x f) P := by
  subst hx
  exact h
theorem zwp_2e {α γ β : Type} {x : Option (α × γ)} {f : α → γ → Option β} {P : β → Prop} {a : α} {b : γ} (hx : x = some (a, b)) (h : zwp (f a b) P) : zwp (zc2 x f) P := by
  subst hx
  exact h
theorem zwp_s {β : Type} {b : β} {P : β → Prop} (h : P b) : zwp (some b) P := ⟨b, rfl, h⟩
theorem zwp_m {β : Type} {x : Option β} {P R : β → Prop} (h : zwp x R) (hR : ∀ b, R b → P b) : zwp x P := by
  obtain ⟨b, h1, h2⟩ := h
  exact ⟨b, h1, hR b h2⟩
theorem zwp_e {β : Type} {x : Option β} {b : β} {P : β → Prop} (h : zwp x P) (hx : x = some b) : P b := by
  obtain ⟨c, h1, h2⟩ := h
  rw [hx] at h1
  cases h1
  exact h2
theorem zpt_zpk (is : List Nat) (M : zM) : zpt is M (zpk is M) = M := by
  funext k
  unfold zpt
  cases hz : zix is k with
  | none => rfl
  | some j =>
    show M (is.getD j 0) = M k
    rw [List.getD_eq_getElem?_getD, zix_some hz]
    rfl
theorem zup_at (M : zM) (k i : Nat) (v : Int) (a b : Nat) : zup M k i v a b = if a = k ∧ b = i then v else M a b := rfl
theorem zup_eq (M : zM) (k i : Nat) (v : Int) : zup M k i v k i = v := by
  rw [zup_at, if_pos ⟨rfl, rfl⟩]
/-- one place of a row changed -/
def zu (f : Nat → Int) (i : Nat) (v : Int) : Nat → Int := fun b => if b = i then v else f b
theorem zup_row (M : zM) (k i : Nat) (v : Int) : zup M k i v k = zu (M k) i v := by
  funext b
  rw [zup_self]
  rfl
theorem zup_other {M : zM} {k i : Nat} {v : Int} {a : Nat} (h : a ≠ k) : zup M k i v a = M a := zup_ne h
/-! queues: e is the end's node, l the keys behind it, the oldest first -/
def zLink (nw od : Nat → Int) : List Nat → Prop
  | x :: y :: r => nw x = (y : Int) ∧ od y = (x : Int) ∧ zLink nw od (y :: r)
  | _ => True
def zCh (nw od : Nat → Int) (e : Nat) (l : List Nat) : Prop := zLink nw od (e :: (l ++ [e]))
theorem zLink_app {nw od : Nat → Int} : ∀ {p : List Nat} {x : Nat} {s : List Nat}, zLink nw od (p ++ x :: s) ↔ zLink nw od (p ++ [x]) ∧ zLink nw od (x :: s)
  | [], x, s => ⟨fun h => ⟨trivial, h⟩, fun h => h.2⟩
  | [y], x, s => by
    show (nw y = (x : Int) ∧ od x = (y : Int) ∧ zLink nw od (x :: s)) ↔ (nw y = (x : Int) ∧ od x = (y : Int) ∧ True) ∧ zLink nw od (x :: s)
    constructor
    · rintro ⟨a, b, c⟩; exact ⟨⟨a, b, trivial⟩, c⟩
    · rintro ⟨⟨a, b, -⟩, c⟩; exact ⟨a, b, c⟩
  | y :: z :: p, x, s => by
    have ih := zLink_app (nw := nw) (od := od) (p := z :: p) (x := x) (s := s)
    show (nw y = (z : Int) ∧ od z = (y : Int) ∧ zLink nw od (z :: (p ++ x :: s))) ↔ (nw y = (z : Int) ∧ od z = (y : Int) ∧ zLink nw od (z :: (p ++ [x]))) ∧ zLink nw od (x :: s)
    have ih : zLink nw od (z :: (p ++ x :: s)) ↔ zLink nw od (z :: (p ++ [x])) ∧ zLink nw od (x :: s) := ih
    rw [ih]
    constructor
    · rintro ⟨a, b, c, d⟩; exact ⟨⟨a, b, c⟩, d⟩
    · rintro ⟨⟨a, b, c⟩, d⟩; exact ⟨a, b, c, d⟩
/-- a chain whose sources and targets aren't touched stays -/
theorem zLink_congr {nw od nw' od' : Nat → Int} : ∀ {l : List Nat}, zLink nw od l → (∀ x, x ∈ l.dropLast → nw' x = nw x) → (∀ x, x ∈ l.tail → od' x = od x) → zLink nw' od' l
  | [], _, _, _ => trivial
  | [x], _, _, _ => trivial
  | x :: y :: r, h, h1, h2 => by
    obtain ⟨a, b, c⟩ := h
    refine ⟨?_, ?_, zLink_congr c (fun z hz => h1 z ?_) (fun z hz => h2 z ?_)⟩
    · rw [h1 x (by show x ∈ x :: (y :: r).dropLast; exact List.mem_cons_self)]; exact a
    · rw [h2 y (by show y ∈ y :: r; exact List.mem_cons_self)]; exact b
    · show z ∈ x :: (y :: r).dropLast
      exact List.mem_cons_of_mem _ hz
    · show z ∈ y :: r
      exact List.mem_cons_of_mem _ hz
theorem zCh_first {nw od : Nat → Int} {e : Nat} {l : List Nat} (h : zCh nw od e l) : nw e = ((l ++ [e]).headD e : Nat) := by
  unfold zCh at h
  cases l with
  | nil => exact h.1
  | cons x r => exact h.1
theorem zCh_split {nw od : Nat → Int} {e : Nat} {l1 l2 : List Nat} {k : Nat} (h : zCh nw od e (l1 ++ k :: l2)) : zLink nw od (e :: (l1 ++ [k])) ∧ zLink nw od (k :: (l2 ++ [e])) := by
  unfold zCh at h
  have : e :: ((l1 ++ k :: l2) ++ [e]) = (e :: l1) ++ k :: (l2 ++ [e]) := by simp
  rw [this, zLink_app] at h
  exact h
/-- the last of a list that isn't empty, and what stands ahead of it -/
theorem zSnoc {l : List Nat} {e : Nat} : ∃ (p : List Nat) (x : Nat), e :: l = p ++ [x] := by
  refine ⟨(e :: l).dropLast, (e :: l).getLast (by simp), ?_⟩
  exact (List.dropLast_concat_getLast (by simp)).symm
/-- a key leaves -/
theorem zCh_remove {nw od : Nat → Int} {e : Nat} {l1 l2 : List Nat} {k : Nat} (h : zCh nw od e (l1 ++ k :: l2)) (hn : (e :: (l1 ++ k :: l2)).Nodup) :
    ∃ a b : Nat, od k = (a : Int) ∧ nw k = (b : Int) ∧ a ∈ e :: l1 ∧ b ∈ l2 ++ [e] ∧ zCh (zu nw a b) (zu od b a) e (l1 ++ l2) := by
  obtain ⟨h1, h2⟩ := zCh_split h
  obtain ⟨p, a, hp⟩ := zSnoc (l := l1) (e := e)
  obtain ⟨b, s, hs⟩ : ∃ (b : Nat) (s : List Nat), l2 ++ [e] = b :: s := by
    cases l2 with
    | nil => exact ⟨e, [], rfl⟩
    | cons y r => exact ⟨y, r ++ [e], rfl⟩
  have e1 : e :: (l1 ++ [k]) = p ++ a :: [k] := by
    have : e :: (l1 ++ [k]) = (e :: l1) ++ [k] := rfl
    rw [this, hp]
    simp
  rw [e1, zLink_app] at h1
  rw [hs] at h2
  obtain ⟨hpa, hak⟩ := h1
  have hak1 : nw a = (k : Int) ∧ od k = (a : Int) ∧ True := hak
  have hkb : nw k = (b : Int) ∧ od b = (k : Int) ∧ zLink nw od (b :: s) := h2
  have haM : a ∈ e :: l1 := by rw [hp]; simp
  have hbM : b ∈ l2 ++ [e] := by rw [hs]; simp
  refine ⟨a, b, hak1.2.1, hkb.1, haM, hbM, ?_⟩
  have e2 : e :: ((l1 ++ l2) ++ [e]) = p ++ a :: (b :: s) := by
    have : e :: ((l1 ++ l2) ++ [e]) = (e :: l1) ++ (l2 ++ [e]) := by simp
    rw [this, hp, hs]
    simp
  unfold zCh
  rw [e2, zLink_app]
  -- nodup facts
  have hn2 : ((e :: l1) ++ k :: l2).Nodup := hn
  rw [hp] at hn2
  have hnp : p.Nodup ∧ a ∉ p := by
    have h9 : (p ++ [a]).Nodup := (List.nodup_append.mp hn2).1
    have := List.nodup_append.mp h9
    exact ⟨this.1, fun q => (this.2.2 a q a (by simp)) rfl⟩
  have hdis : ∀ x, x ∈ p ++ [a] → x ∉ k :: l2 := fun x hx hx2 => (List.nodup_append.mp hn2).2.2 x hx x hx2 rfl
  have hbs : (b :: s).Nodup := by
    rw [← hs]
    have hn3 : (e :: (l1 ++ k :: l2)).Nodup := hn
    rw [List.nodup_cons] at hn3
    have h9 := (List.nodup_append.mp hn3.2).2.1
    rw [List.nodup_cons] at h9
    refine List.nodup_append.mpr ⟨h9.2, by simp, ?_⟩
    intro x hx y hy hxy
    simp at hy
    subst hy
    subst hxy
    exact hn3.1 (by simp [hx])
  refine ⟨zLink_congr hpa (fun x hx => ?_) (fun x hx => ?_), ?_, ?_, zLink_congr hkb.2.2 (fun x hx => ?_) (fun x hx => ?_)⟩
  · -- sources of p ++ [a] without the last: p
    have hx : x ∈ p := by
      have : (p ++ [a]).dropLast = p := by simp
      rw [this] at hx; exact hx
    unfold zu
    rw [if_neg (fun (q : x = a) => hnp.2 (q ▸ hx))]
  · -- targets: the tail of p ++ [a] : never b, for b is in l2 or e, and e is the head
    unfold zu
    rw [if_neg]
    intro q
    subst q
    have hx2 : x ∈ l1 := by
      have : (p ++ [a]).tail = l1 := by rw [← hp]; rfl
      rw [this] at hx; exact hx
    rcases List.mem_append.mp hbM with h9 | h9
    · exact hdis x (by rw [← hp]; exact List.mem_cons_of_mem _ hx2) (List.mem_cons_of_mem _ h9)
    · simp at h9
      subst h9
      have := List.nodup_cons.mp hn
      exact this.1 (by simp [hx2])
  · show zu nw a b a = (b : Int)
    unfold zu
    rw [if_pos rfl]
  · show zu od b a b = (a : Int)
    unfold zu
    rw [if_pos rfl]
  · -- sources of b :: s: all but the last, which is e
    unfold zu
    rw [if_neg]
    intro q
    subst q
    have hx2 : x ∈ l2 := by
      have : (b :: s).dropLast = l2 := by rw [← hs]; simp
      rw [this] at hx; exact hx
    exact hdis x (by rw [← hp]; exact haM) (List.mem_cons_of_mem _ hx2)
  · -- targets of b :: s: the tail
    unfold zu
    rw [if_neg]
    intro q
    subst q
    have hx : x ∈ s := hx
    exact (List.nodup_cons.mp hbs).1 hx
/-- a key comes, as the newest -/
theorem zCh_add {nw od : Nat → Int} {e : Nat} {l : List Nat} {k : Nat} (h : zCh nw od e l) (hn : (e :: l).Nodup) (hk : k ∉ e :: l) :
    ∃ a : Nat, od e = (a : Int) ∧ a ∈ e :: l ∧ zCh (zu (zu nw a k) k e) (zu (zu od k a) e k) e (l ++ [k]) := by
  obtain ⟨p, a, hp⟩ := zSnoc (l := l) (e := e)
  have haM : a ∈ e :: l := by rw [hp]; simp
  have hak : a ≠ k := fun q => hk (q ▸ haM)
  have e1 : e :: (l ++ [e]) = p ++ a :: [e] := by
    have : e :: (l ++ [e]) = (e :: l) ++ [e] := rfl
    rw [this, hp]
    simp
  unfold zCh at h
  rw [e1, zLink_app] at h
  obtain ⟨hpa, hae⟩ := h
  have hae1 : nw a = (e : Int) ∧ od e = (a : Int) ∧ True := hae
  refine ⟨a, hae1.2.1, haM, ?_⟩
  have e2 : e :: ((l ++ [k]) ++ [e]) = p ++ a :: [k, e] := by
    have : e :: ((l ++ [k]) ++ [e]) = (e :: l) ++ [k, e] := by simp
    rw [this, hp]
    simp
  have hke : k ≠ e := fun q => hk (by rw [q]; simp)
  unfold zCh
  rw [e2, zLink_app]
  have hn2 : (p ++ [a]).Nodup := hp ▸ hn
  have hap : a ∉ p := fun q => ((List.nodup_append.mp hn2).2.2 a q a (by simp)) rfl
  refine ⟨zLink_congr hpa (fun x hx => ?_) (fun x hx => ?_), ?_, ?_, ?_, ?_, trivial⟩
  · have hx : x ∈ p := by
      have : (p ++ [a]).dropLast = p := by simp
      rw [this] at hx; exact hx
    have h1 : x ≠ k := fun q => hk (by rw [← q, hp]; simp [hx])
    have h2 : x ≠ a := fun q => hap (q ▸ hx)
    unfold zu
    rw [if_neg h1, if_neg h2]
  · have hx2 : x ∈ l := by
      have : (p ++ [a]).tail = l := by rw [← hp]; rfl
      rw [this] at hx; exact hx
    have h1 : x ≠ e := fun q => (List.nodup_cons.mp hn).1 (q ▸ hx2)
    have h2 : x ≠ k := fun q => hk (by rw [← q]; simp [hx2])
    unfold zu
    rw [if_neg h1, if_neg h2]
  · show zu (zu nw a k) k e a = (k : Int)
    unfold zu
    rw [if_neg hak, if_pos rfl]
  · show zu (zu od k a) e k k = (a : Int)
    unfold zu
    rw [if_neg hke, if_pos rfl]
  · show zu (zu nw a k) k e k = (e : Int)
    unfold zu
    rw [if_pos rfl]
  · show zu (zu od k a) e k e = (k : Int)
    unfold zu
    rw [if_pos rfl]
/-- another chain, whose nodes are others -/
theorem zCh_other {nw od nw' od' : Nat → Int} {e : Nat} {l : List Nat} (h : zCh nw od e l) (h1 : ∀ x, x ∈ e :: l → nw' x = nw x) (h2 : ∀ x, x ∈ e :: l → od' x = od x) : zCh nw' od' e l := by
  unfold zCh at h ⊢
  refine zLink_congr h (fun x hx => h1 x ?_) (fun x hx => h2 x ?_)
  · have : (e :: (l ++ [e])).dropLast = e :: l := by
      have : e :: (l ++ [e]) = (e :: l) ++ [e] := rfl
      rw [this, List.dropLast_concat]
    rw [this] at hx; exact hx
  · have hx : x ∈ l ++ [e] := hx
    rcases List.mem_append.mp hx with h9 | h9
    · exact List.mem_cons_of_mem _ h9
    · simp at h9; rw [h9]; simp
