/-! The orders that both go through -/
def lsw (l : List Nat) (i j : Nat) : List Nat := (l.set i (l.getD j 0)).set j (l.getD i 0)
def sqL : Nat → List Nat → Nat → List Nat
  | 0, l, _ => l
  | m + 1, l, v => sqL m (lsw l (m + 1) (v % (m + 2))) (v / (m + 2))
def sqc (n k : Nat) : List Nat := sqL (n - 1) (List.range n) k
def f1 (l : List Nat) : Nat → Nat
  | 0 => 0
  | k + 1 => if Nat.ble (l.getD k 0) (l.getD (k + 1) 0) = true then k + 1 else f1 l k
def f2 (l : List Nat) (i : Nat) : Nat → Nat
  | 0 => 0
  | k + 1 => if Nat.ble (l.getD i 0) (l.getD (k + 1) 0) = true then k + 1 else f2 l i k
def rvl : Nat → List Nat → Nat → Nat → List Nat
  | 0, l, _, _ => l
  | c + 1, l, a, b => if Nat.ble b a = true then l else rvl c (lsw l a b) (a + 1) (b - 1)
def nxt (n : Nat) (l : List Nat) : Option (List Nat) := if f1 l (n - 1) = 0 then none else some (rvl n (lsw l (f2 l (f1 l (n - 1) - 1) (n - 1)) (f1 l (n - 1) - 1)) (f1 l (n - 1)) (n - 1))
def vis (n : Nat) : Nat → List Nat → Option (List (List Nat))
  | 0, _ => none
  | c + 1, l => match nxt n l with
    | none => some [l]
    | some l' => (vis n c l').map (fun t => l :: t)
def fac : Nat → Nat
  | 0 => 1
  | n + 1 => (n + 1) * fac n
def cdl (l : List Nat) : Nat := l.foldl (fun a x => 7 * a + x) 0
def dcl (n : Nat) : Nat → Nat → List Nat
  | 0, _ => []
  | c + 1, v => dcl n c (v / 7) ++ [v % 7]
def mrg : Nat → List Nat → List Nat → List Nat
  | 0, a, b => a ++ b
  | _ + 1, [], b => b
  | _ + 1, x :: a, [] => x :: a
  | f + 1, x :: a, y :: b => if Nat.ble x y = true then x :: mrg f a (y :: b) else y :: mrg f (x :: a) b
def srt : Nat → List Nat → List Nat
  | 0, l => l
  | f + 1, l => if Nat.ble l.length 1 = true then l else mrg 2000 (srt f (l.take (l.length / 2))) (srt f (l.drop (l.length / 2)))
theorem mrg_perm : ∀ (f : Nat) (a b : List Nat), (mrg f a b).Perm (a ++ b)
  | 0, a, b => by rw [mrg]
  | f + 1, [], b => by rw [mrg, List.nil_append]
  | f + 1, x :: a, [] => by rw [mrg, List.append_nil]
  | f + 1, x :: a, y :: b => by
    rw [mrg]
    split
    · exact (mrg_perm f a (y :: b)).cons x
    · refine ((mrg_perm f (x :: a) b).cons y).trans ?_
      exact (List.perm_middle (l₁ := x :: a) (a := y) (l₂ := b)).symm
theorem srt_perm : ∀ (f : Nat) (l : List Nat), (srt f l).Perm l
  | 0, l => by rw [srt]
  | f + 1, l => by
    rw [srt]
    split
    · exact List.Perm.refl l
    · refine (mrg_perm _ _ _).trans (((srt_perm f _).append (srt_perm f _)).trans ?_)
      rw [List.take_append_drop]
def okP (n : Nat) : Bool := match vis n 721 (List.range n) with
  | none => false
  | some ls => decide (srt 12 (ls.map cdl) = srt 12 (((List.range (fac n)).map (sqc n)).map cdl)) && decide ((ls.map cdl).map (dcl n n) = ls) && decide ((((List.range (fac n)).map (sqc n)).map cdl).map (dcl n n) = (List.range (fac n)).map (sqc n))
theorem okP_0 : okP 0 = true := by decide +kernel
theorem okP_1 : okP 1 = true := by decide +kernel
theorem okP_2 : okP 2 = true := by decide +kernel
theorem okP_3 : okP 3 = true := by decide +kernel
theorem okP_4 : okP 4 = true := by decide +kernel
theorem okP_5 : okP 5 = true := by decide +kernel
theorem okP_6 : okP 6 = true := by decide +kernel
theorem perms {n : Nat} (hn : n ≤ 6) : ∃ ls, vis n 721 (List.range n) = some ls ∧ ls.Perm ((List.range (fac n)).map (sqc n)) := by
  have h : okP n = true := by
    rcases (show n = 0 ∨ n = 1 ∨ n = 2 ∨ n = 3 ∨ n = 4 ∨ n = 5 ∨ n = 6 by omega) with rfl | rfl | rfl | rfl | rfl | rfl | rfl
    · exact okP_0
    · exact okP_1
    · exact okP_2
    · exact okP_3
    · exact okP_4
    · exact okP_5
    · exact okP_6
  unfold okP at h
  cases hv : vis n 721 (List.range n) with
  | none => rw [hv] at h; cases h
  | some ls =>
    rw [hv] at h
    simp only [Bool.and_eq_true, decide_eq_true_eq] at h
    obtain ⟨⟨h1, h2⟩, h3⟩ := h
    refine ⟨ls, rfl, ?_⟩
    have p : (ls.map cdl).Perm (((List.range (fac n)).map (sqc n)).map cdl) := (srt_perm 12 _).symm.trans (by rw [h1]; exact srt_perm 12 _)
    have q := p.map (dcl n n)
    rw [h2, h3] at q
    exact q
def smf (f : List Nat → Nat) : List (List Nat) → Nat
  | [] => 0
  | l :: t => f l + smf f t
theorem smf_perm (f : List Nat → Nat) {a b : List (List Nat)} (h : a.Perm b) : smf f a = smf f b := by
  induction h with
  | nil => rfl
  | cons x _ ih => show f x + _ = f x + _; rw [ih]
  | swap x y l => show f y + (f x + _) = f x + (f y + _); omega
  | trans _ _ h1 h2 => rw [h1, h2]
