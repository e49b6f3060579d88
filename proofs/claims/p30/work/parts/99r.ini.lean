/-! THE CONSTRUCTORS, at the addresses of the start (written by gen_init.py) -/
section INI
variable {L : Nat} {xs : Nat → Int32} {n t c : Nat} {D : List (Nat × Nat)} {W Y : List Nat} {h : Hp}
theorem Zi.wW (z : Zi L xs n t D c W Y h) (b : Nat) : Zi L xs n t D c (b :: W) Y h := by
  obtain ⟨z1, z2, z3, z4, z5, z6, z7, z8, z9⟩ := z
  exact ⟨z1, z2, z3, z4, z5, fun a k h1 h2 hw => z6 a k h1 h2 (fun m => hw (List.mem_cons_of_mem _ m)), z7, z8, z9⟩
theorem ini_X4_7 (z : Zi L xs 7 t D c W Y h) (hy : ∀ q ∈ Y, q + 2 < 7) : Tr (f_X4_init 7 h) (fun _ h1 => Zi L xs 9 (t + 60 + 60) ((7, 1) :: (7, 0) :: D) c W Y h1) := by
  refine Tr.nm (fun h1 eh1 => ?_)
  have zh1 := z.nw (m := 8) (kd := 20) (len := 60) (sl := 60) rfl rfl
  rw [← eh1] at zh1
  clear eh1
  rw [z.1]
  refine Tr.ck (zh1.o (ci := 4) (a := 7) rfl (by decide) (by decide)) ?_
  refine Tr.nm (fun h5 eh5 => ?_)
  have zh5 := (zh1.sP (a := 7) (k := 0) (v := 7 + 1) rfl (by decide) (by decide))
  rw [← eh5] at zh5
  clear eh5
  refine Tr.nm (fun h8 eh8 => ?_)
  have zh8 := zh5.nw (m := 9) (kd := 20) (len := 60) (sl := 60) rfl rfl
  rw [← eh8] at zh8
  clear eh8
  rw [zh5.1]
  refine Tr.ck (zh8.o (ci := 4) (a := 7) rfl (by decide) (by decide)) ?_
  refine Tr.nm (fun h12 eh12 => ?_)
  have zh12 := (((zh8.sP (a := 7) (k := 1) (v := 8 + 1) rfl (by decide) (by decide)).sI (a := 7) (k := 2) (x := 0) (Or.inl rfl) (by decide) (fun q hq => Or.inr (by have := hy q hq; omega))).sI (a := 7) (k := 3) (x := 0) (Or.inl rfl) (by decide) (fun q hq => Or.inr (by have := hy q hq; omega)))
  rw [← eh12] at zh12
  clear eh12
  exact Tr.ret zh12
theorem ini_X4_10 (z : Zi L xs 10 t D c W Y h) (hy : ∀ q ∈ Y, q + 2 < 10) : Tr (f_X4_init 10 h) (fun _ h1 => Zi L xs 12 (t + 60 + 60) ((10, 1) :: (10, 0) :: D) c W Y h1) := by
  refine Tr.nm (fun h1 eh1 => ?_)
  have zh1 := z.nw (m := 11) (kd := 20) (len := 60) (sl := 60) rfl rfl
  rw [← eh1] at zh1
  clear eh1
  rw [z.1]
  refine Tr.ck (zh1.o (ci := 4) (a := 10) rfl (by decide) (by decide)) ?_
  refine Tr.nm (fun h5 eh5 => ?_)
  have zh5 := (zh1.sP (a := 10) (k := 0) (v := 10 + 1) rfl (by decide) (by decide))
  rw [← eh5] at zh5
  clear eh5
  refine Tr.nm (fun h8 eh8 => ?_)
  have zh8 := zh5.nw (m := 12) (kd := 20) (len := 60) (sl := 60) rfl rfl
  rw [← eh8] at zh8
  clear eh8
  rw [zh5.1]
  refine Tr.ck (zh8.o (ci := 4) (a := 10) rfl (by decide) (by decide)) ?_
  refine Tr.nm (fun h12 eh12 => ?_)
  have zh12 := (((zh8.sP (a := 10) (k := 1) (v := 11 + 1) rfl (by decide) (by decide)).sI (a := 10) (k := 2) (x := 0) (Or.inl rfl) (by decide) (fun q hq => Or.inr (by have := hy q hq; omega))).sI (a := 10) (k := 3) (x := 0) (Or.inl rfl) (by decide) (fun q hq => Or.inr (by have := hy q hq; omega)))
  rw [← eh12] at zh12
  clear eh12
  exact Tr.ret zh12
theorem ini_X4_13 (z : Zi L xs 13 t D c W Y h) (hy : ∀ q ∈ Y, q + 2 < 13) : Tr (f_X4_init 13 h) (fun _ h1 => Zi L xs 15 (t + 60 + 60) ((13, 1) :: (13, 0) :: D) c W Y h1) := by
  refine Tr.nm (fun h1 eh1 => ?_)
  have zh1 := z.nw (m := 14) (kd := 20) (len := 60) (sl := 60) rfl rfl
  rw [← eh1] at zh1
  clear eh1
  rw [z.1]
  refine Tr.ck (zh1.o (ci := 4) (a := 13) rfl (by decide) (by decide)) ?_
  refine Tr.nm (fun h5 eh5 => ?_)
  have zh5 := (zh1.sP (a := 13) (k := 0) (v := 13 + 1) rfl (by decide) (by decide))
  rw [← eh5] at zh5
  clear eh5
  refine Tr.nm (fun h8 eh8 => ?_)
  have zh8 := zh5.nw (m := 15) (kd := 20) (len := 60) (sl := 60) rfl rfl
  rw [← eh8] at zh8
  clear eh8
  rw [zh5.1]
  refine Tr.ck (zh8.o (ci := 4) (a := 13) rfl (by decide) (by decide)) ?_
  refine Tr.nm (fun h12 eh12 => ?_)
  have zh12 := (((zh8.sP (a := 13) (k := 1) (v := 14 + 1) rfl (by decide) (by decide)).sI (a := 13) (k := 2) (x := 0) (Or.inl rfl) (by decide) (fun q hq => Or.inr (by have := hy q hq; omega))).sI (a := 13) (k := 3) (x := 0) (Or.inl rfl) (by decide) (fun q hq => Or.inr (by have := hy q hq; omega)))
  rw [← eh12] at zh12
  clear eh12
  exact Tr.ret zh12
theorem ini_X4_16 (z : Zi L xs 16 t D c W Y h) (hy : ∀ q ∈ Y, q + 2 < 16) : Tr (f_X4_init 16 h) (fun _ h1 => Zi L xs 18 (t + 60 + 60) ((16, 1) :: (16, 0) :: D) c W Y h1) := by
  refine Tr.nm (fun h1 eh1 => ?_)
  have zh1 := z.nw (m := 17) (kd := 20) (len := 60) (sl := 60) rfl rfl
  rw [← eh1] at zh1
  clear eh1
  rw [z.1]
  refine Tr.ck (zh1.o (ci := 4) (a := 16) rfl (by decide) (by decide)) ?_
  refine Tr.nm (fun h5 eh5 => ?_)
  have zh5 := (zh1.sP (a := 16) (k := 0) (v := 16 + 1) rfl (by decide) (by decide))
  rw [← eh5] at zh5
  clear eh5
  refine Tr.nm (fun h8 eh8 => ?_)
  have zh8 := zh5.nw (m := 18) (kd := 20) (len := 60) (sl := 60) rfl rfl
  rw [← eh8] at zh8
  clear eh8
  rw [zh5.1]
  refine Tr.ck (zh8.o (ci := 4) (a := 16) rfl (by decide) (by decide)) ?_
  refine Tr.nm (fun h12 eh12 => ?_)
  have zh12 := (((zh8.sP (a := 16) (k := 1) (v := 17 + 1) rfl (by decide) (by decide)).sI (a := 16) (k := 2) (x := 0) (Or.inl rfl) (by decide) (fun q hq => Or.inr (by have := hy q hq; omega))).sI (a := 16) (k := 3) (x := 0) (Or.inl rfl) (by decide) (fun q hq => Or.inr (by have := hy q hq; omega)))
  rw [← eh12] at zh12
  clear eh12
  exact Tr.ret zh12
theorem ini_X4_19 (z : Zi L xs 19 t D c W Y h) (hy : ∀ q ∈ Y, q + 2 < 19) : Tr (f_X4_init 19 h) (fun _ h1 => Zi L xs 21 (t + 60 + 60) ((19, 1) :: (19, 0) :: D) c W Y h1) := by
  refine Tr.nm (fun h1 eh1 => ?_)
  have zh1 := z.nw (m := 20) (kd := 20) (len := 60) (sl := 60) rfl rfl
  rw [← eh1] at zh1
  clear eh1
  rw [z.1]
  refine Tr.ck (zh1.o (ci := 4) (a := 19) rfl (by decide) (by decide)) ?_
  refine Tr.nm (fun h5 eh5 => ?_)
  have zh5 := (zh1.sP (a := 19) (k := 0) (v := 19 + 1) rfl (by decide) (by decide))
  rw [← eh5] at zh5
  clear eh5
  refine Tr.nm (fun h8 eh8 => ?_)
  have zh8 := zh5.nw (m := 21) (kd := 20) (len := 60) (sl := 60) rfl rfl
  rw [← eh8] at zh8
  clear eh8
  rw [zh5.1]
  refine Tr.ck (zh8.o (ci := 4) (a := 19) rfl (by decide) (by decide)) ?_
  refine Tr.nm (fun h12 eh12 => ?_)
  have zh12 := (((zh8.sP (a := 19) (k := 1) (v := 20 + 1) rfl (by decide) (by decide)).sI (a := 19) (k := 2) (x := 0) (Or.inl rfl) (by decide) (fun q hq => Or.inr (by have := hy q hq; omega))).sI (a := 19) (k := 3) (x := 0) (Or.inl rfl) (by decide) (fun q hq => Or.inr (by have := hy q hq; omega)))
  rw [← eh12] at zh12
  clear eh12
  exact Tr.ret zh12
theorem ini_X4_27 (z : Zi L xs 27 t D c W Y h) (hy : ∀ q ∈ Y, q + 2 < 27) : Tr (f_X4_init 27 h) (fun _ h1 => Zi L xs 29 (t + 60 + 60) ((27, 1) :: (27, 0) :: D) c W Y h1) := by
  refine Tr.nm (fun h1 eh1 => ?_)
  have zh1 := z.nw (m := 28) (kd := 20) (len := 60) (sl := 60) rfl rfl
  rw [← eh1] at zh1
  clear eh1
  rw [z.1]
  refine Tr.ck (zh1.o (ci := 4) (a := 27) rfl (by decide) (by decide)) ?_
  refine Tr.nm (fun h5 eh5 => ?_)
  have zh5 := (zh1.sP (a := 27) (k := 0) (v := 27 + 1) rfl (by decide) (by decide))
  rw [← eh5] at zh5
  clear eh5
  refine Tr.nm (fun h8 eh8 => ?_)
  have zh8 := zh5.nw (m := 29) (kd := 20) (len := 60) (sl := 60) rfl rfl
  rw [← eh8] at zh8
  clear eh8
  rw [zh5.1]
  refine Tr.ck (zh8.o (ci := 4) (a := 27) rfl (by decide) (by decide)) ?_
  refine Tr.nm (fun h12 eh12 => ?_)
  have zh12 := (((zh8.sP (a := 27) (k := 1) (v := 28 + 1) rfl (by decide) (by decide)).sI (a := 27) (k := 2) (x := 0) (Or.inl rfl) (by decide) (fun q hq => Or.inr (by have := hy q hq; omega))).sI (a := 27) (k := 3) (x := 0) (Or.inl rfl) (by decide) (fun q hq => Or.inr (by have := hy q hq; omega)))
  rw [← eh12] at zh12
  clear eh12
  exact Tr.ret zh12
theorem ini_X4_32 (z : Zi L xs 32 t D c W Y h) (hy : ∀ q ∈ Y, q + 2 < 32) : Tr (f_X4_init 32 h) (fun _ h1 => Zi L xs 34 (t + 60 + 60) ((32, 1) :: (32, 0) :: D) c W Y h1) := by
  refine Tr.nm (fun h1 eh1 => ?_)
  have zh1 := z.nw (m := 33) (kd := 20) (len := 60) (sl := 60) rfl rfl
  rw [← eh1] at zh1
  clear eh1
  rw [z.1]
  refine Tr.ck (zh1.o (ci := 4) (a := 32) rfl (by decide) (by decide)) ?_
  refine Tr.nm (fun h5 eh5 => ?_)
  have zh5 := (zh1.sP (a := 32) (k := 0) (v := 32 + 1) rfl (by decide) (by decide))
  rw [← eh5] at zh5
  clear eh5
  refine Tr.nm (fun h8 eh8 => ?_)
  have zh8 := zh5.nw (m := 34) (kd := 20) (len := 60) (sl := 60) rfl rfl
  rw [← eh8] at zh8
  clear eh8
  rw [zh5.1]
  refine Tr.ck (zh8.o (ci := 4) (a := 32) rfl (by decide) (by decide)) ?_
  refine Tr.nm (fun h12 eh12 => ?_)
  have zh12 := (((zh8.sP (a := 32) (k := 1) (v := 33 + 1) rfl (by decide) (by decide)).sI (a := 32) (k := 2) (x := 0) (Or.inl rfl) (by decide) (fun q hq => Or.inr (by have := hy q hq; omega))).sI (a := 32) (k := 3) (x := 0) (Or.inl rfl) (by decide) (fun q hq => Or.inr (by have := hy q hq; omega)))
  rw [← eh12] at zh12
  clear eh12
  exact Tr.ret zh12
theorem ini_X4_36 (z : Zi L xs 36 t D c W Y h) (hy : ∀ q ∈ Y, q + 2 < 36) : Tr (f_X4_init 36 h) (fun _ h1 => Zi L xs 38 (t + 60 + 60) ((36, 1) :: (36, 0) :: D) c W Y h1) := by
  refine Tr.nm (fun h1 eh1 => ?_)
  have zh1 := z.nw (m := 37) (kd := 20) (len := 60) (sl := 60) rfl rfl
  rw [← eh1] at zh1
  clear eh1
  rw [z.1]
  refine Tr.ck (zh1.o (ci := 4) (a := 36) rfl (by decide) (by decide)) ?_
  refine Tr.nm (fun h5 eh5 => ?_)
  have zh5 := (zh1.sP (a := 36) (k := 0) (v := 36 + 1) rfl (by decide) (by decide))
  rw [← eh5] at zh5
  clear eh5
  refine Tr.nm (fun h8 eh8 => ?_)
  have zh8 := zh5.nw (m := 38) (kd := 20) (len := 60) (sl := 60) rfl rfl
  rw [← eh8] at zh8
  clear eh8
  rw [zh5.1]
  refine Tr.ck (zh8.o (ci := 4) (a := 36) rfl (by decide) (by decide)) ?_
  refine Tr.nm (fun h12 eh12 => ?_)
  have zh12 := (((zh8.sP (a := 36) (k := 1) (v := 37 + 1) rfl (by decide) (by decide)).sI (a := 36) (k := 2) (x := 0) (Or.inl rfl) (by decide) (fun q hq => Or.inr (by have := hy q hq; omega))).sI (a := 36) (k := 3) (x := 0) (Or.inl rfl) (by decide) (fun q hq => Or.inr (by have := hy q hq; omega)))
  rw [← eh12] at zh12
  clear eh12
  exact Tr.ret zh12
theorem ini_X4_58 (z : Zi L xs 58 t D c W Y h) (hy : ∀ q ∈ Y, q + 2 < 58) : Tr (f_X4_init 58 h) (fun _ h1 => Zi L xs 60 (t + 60 + 60) ((58, 1) :: (58, 0) :: D) c W Y h1) := by
  refine Tr.nm (fun h1 eh1 => ?_)
  have zh1 := z.nw (m := 59) (kd := 20) (len := 60) (sl := 60) rfl rfl
  rw [← eh1] at zh1
  clear eh1
  rw [z.1]
  refine Tr.ck (zh1.o (ci := 4) (a := 58) rfl (by decide) (by decide)) ?_
  refine Tr.nm (fun h5 eh5 => ?_)
  have zh5 := (zh1.sP (a := 58) (k := 0) (v := 58 + 1) rfl (by decide) (by decide))
  rw [← eh5] at zh5
  clear eh5
  refine Tr.nm (fun h8 eh8 => ?_)
  have zh8 := zh5.nw (m := 60) (kd := 20) (len := 60) (sl := 60) rfl rfl
  rw [← eh8] at zh8
  clear eh8
  rw [zh5.1]
  refine Tr.ck (zh8.o (ci := 4) (a := 58) rfl (by decide) (by decide)) ?_
  refine Tr.nm (fun h12 eh12 => ?_)
  have zh12 := (((zh8.sP (a := 58) (k := 1) (v := 59 + 1) rfl (by decide) (by decide)).sI (a := 58) (k := 2) (x := 0) (Or.inl rfl) (by decide) (fun q hq => Or.inr (by have := hy q hq; omega))).sI (a := 58) (k := 3) (x := 0) (Or.inl rfl) (by decide) (fun q hq => Or.inr (by have := hy q hq; omega)))
  rw [← eh12] at zh12
  clear eh12
  exact Tr.ret zh12
theorem ini_X4_80 (z : Zi L xs 80 t D c W Y h) (hy : ∀ q ∈ Y, q + 2 < 80) : Tr (f_X4_init 80 h) (fun _ h1 => Zi L xs 82 (t + 60 + 60) ((80, 1) :: (80, 0) :: D) c W Y h1) := by
  refine Tr.nm (fun h1 eh1 => ?_)
  have zh1 := z.nw (m := 81) (kd := 20) (len := 60) (sl := 60) rfl rfl
  rw [← eh1] at zh1
  clear eh1
  rw [z.1]
  refine Tr.ck (zh1.o (ci := 4) (a := 80) rfl (by decide) (by decide)) ?_
  refine Tr.nm (fun h5 eh5 => ?_)
  have zh5 := (zh1.sP (a := 80) (k := 0) (v := 80 + 1) rfl (by decide) (by decide))
  rw [← eh5] at zh5
  clear eh5
  refine Tr.nm (fun h8 eh8 => ?_)
  have zh8 := zh5.nw (m := 82) (kd := 20) (len := 60) (sl := 60) rfl rfl
  rw [← eh8] at zh8
  clear eh8
  rw [zh5.1]
  refine Tr.ck (zh8.o (ci := 4) (a := 80) rfl (by decide) (by decide)) ?_
  refine Tr.nm (fun h12 eh12 => ?_)
  have zh12 := (((zh8.sP (a := 80) (k := 1) (v := 81 + 1) rfl (by decide) (by decide)).sI (a := 80) (k := 2) (x := 0) (Or.inl rfl) (by decide) (fun q hq => Or.inr (by have := hy q hq; omega))).sI (a := 80) (k := 3) (x := 0) (Or.inl rfl) (by decide) (fun q hq => Or.inr (by have := hy q hq; omega)))
  rw [← eh12] at zh12
  clear eh12
  exact Tr.ret zh12
theorem ini_X4_102 (z : Zi L xs 102 t D c W Y h) (hy : ∀ q ∈ Y, q + 2 < 102) : Tr (f_X4_init 102 h) (fun _ h1 => Zi L xs 104 (t + 60 + 60) ((102, 1) :: (102, 0) :: D) c W Y h1) := by
  refine Tr.nm (fun h1 eh1 => ?_)
  have zh1 := z.nw (m := 103) (kd := 20) (len := 60) (sl := 60) rfl rfl
  rw [← eh1] at zh1
  clear eh1
  rw [z.1]
  refine Tr.ck (zh1.o (ci := 4) (a := 102) rfl (by decide) (by decide)) ?_
  refine Tr.nm (fun h5 eh5 => ?_)
  have zh5 := (zh1.sP (a := 102) (k := 0) (v := 102 + 1) rfl (by decide) (by decide))
  rw [← eh5] at zh5
  clear eh5
  refine Tr.nm (fun h8 eh8 => ?_)
  have zh8 := zh5.nw (m := 104) (kd := 20) (len := 60) (sl := 60) rfl rfl
  rw [← eh8] at zh8
  clear eh8
  rw [zh5.1]
  refine Tr.ck (zh8.o (ci := 4) (a := 102) rfl (by decide) (by decide)) ?_
  refine Tr.nm (fun h12 eh12 => ?_)
  have zh12 := (((zh8.sP (a := 102) (k := 1) (v := 103 + 1) rfl (by decide) (by decide)).sI (a := 102) (k := 2) (x := 0) (Or.inl rfl) (by decide) (fun q hq => Or.inr (by have := hy q hq; omega))).sI (a := 102) (k := 3) (x := 0) (Or.inl rfl) (by decide) (fun q hq => Or.inr (by have := hy q hq; omega)))
  rw [← eh12] at zh12
  clear eh12
  exact Tr.ret zh12
theorem ini_X3_23 (z : Zi L xs 23 t D c W Y h) (hy : ∀ q ∈ Y, q + 2 < 23) : Tr (f_X3_init 23 h) (fun _ h1 => Zi L xs 29 (t + 150 + 150 + 150 + 4 + 60 + 60) ((23, 5) :: (27, 1) :: (27, 0) :: (23, 3) :: (23, 1) :: (23, 0) :: D) c (23 :: W) Y h1) := by
  have z := z.wW 23
  refine Tr.nm (fun h1 eh1 => ?_)
  have zh1 := z.nw (m := 24) (kd := 20) (len := 150) (sl := 150) rfl rfl
  rw [← eh1] at zh1
  clear eh1
  rw [z.1]
  refine Tr.ck (zh1.o (ci := 3) (a := 23) rfl (by decide) (by decide)) ?_
  refine Tr.nm (fun h5 eh5 => ?_)
  have zh5 := (zh1.sP (a := 23) (k := 0) (v := 23 + 1) rfl (by decide) (by decide))
  rw [← eh5] at zh5
  clear eh5
  refine Tr.nm (fun h8 eh8 => ?_)
  have zh8 := zh5.nw (m := 25) (kd := 20) (len := 150) (sl := 150) rfl rfl
  rw [← eh8] at zh8
  clear eh8
  rw [zh5.1]
  refine Tr.ck (zh8.o (ci := 3) (a := 23) rfl (by decide) (by decide)) ?_
  refine Tr.nm (fun h12 eh12 => ?_)
  have zh12 := ((zh8.sP (a := 23) (k := 1) (v := 24 + 1) rfl (by decide) (by decide)).sI (a := 23) (k := 2) (x := 0) (Or.inl rfl) (by decide) (fun q hq => Or.inr (by have := hy q hq; omega)))
  rw [← eh12] at zh12
  clear eh12
  refine Tr.nm (fun h15 eh15 => ?_)
  have zh15 := zh12.nw (m := 26) (kd := 21) (len := 150) (sl := 150) rfl rfl
  rw [← eh15] at zh15
  clear eh15
  rw [zh12.1]
  refine Tr.ck (zh15.o (ci := 3) (a := 23) rfl (by decide) (by decide)) ?_
  refine Tr.nm (fun h19 eh19 => ?_)
  have zh19 := ((zh15.sP (a := 23) (k := 3) (v := 25 + 1) rfl (by decide) (by decide)).sI (a := 23) (k := 4) (x := 0) (Or.inl rfl) (by decide) (fun q hq => Or.inr (by have := hy q hq; omega)))
  rw [← eh19] at zh19
  clear eh19
  refine Tr.nm (fun h22 eh22 => ?_)
  have zh22 := zh19.nw (m := 27) (kd := 4) (len := 0) (sl := 4) rfl rfl
  rw [← eh22] at zh22
  clear eh22
  rw [zh19.1]
  refine Tr.bd (ini_X4_27 zh22 (fun q hq => by have := hy q hq; omega)) (fun _ h25 zh25 => ?_)
  refine Tr.ck (zh25.o (ci := 3) (a := 23) rfl (by decide) (by decide)) ?_
  refine Tr.nm (fun h27 eh27 => ?_)
  have zh27 := (((zh25.sP (a := 23) (k := 5) (v := 26 + 1) rfl (by decide) (by decide)).sI (a := 23) (k := 6) (x := 0) (Or.inl rfl) (by decide) (fun q hq => Or.inr (by have := hy q hq; omega))).sI (a := 23) (k := 7) (x := 0) (Or.inl rfl) (by decide) (fun q hq => Or.inr (by have := hy q hq; omega)))
  rw [← eh27] at zh27
  clear eh27
  exact Tr.ret ((zh27.sI (a := 23) (k := 8) (x := 2) (Or.inr List.mem_cons_self) (by decide) (fun q hq => Or.inr (by have := hy q hq; omega))).sI (a := 23) (k := 9) (x := (-1)) (Or.inr List.mem_cons_self) (by decide) (fun q hq => Or.inr (by have := hy q hq; omega)))
theorem ini_X1_30 (z : Zi L xs 30 t D c W Y h) (hy : ∀ q ∈ Y, q + 2 < 30) : Tr (f_X1_init 30 h) (fun _ h1 => Zi L xs 31 (t + 3840) ((30, 0) :: D) c W Y h1) := by
  refine Tr.nm (fun h1 eh1 => ?_)
  have zh1 := z.nw (m := 31) (kd := 22) (len := 3840) (sl := 3840) rfl rfl
  rw [← eh1] at zh1
  clear eh1
  rw [z.1]
  refine Tr.ck (zh1.o (ci := 1) (a := 30) rfl (by decide) (by decide)) ?_
  exact Tr.ret (zh1.sP (a := 30) (k := 0) (v := 30 + 1) rfl (by decide) (by decide))
theorem ini_X5_39 (z : Zi L xs 39 t D c W Y h) (hy : ∀ q ∈ Y, q + 2 < 39) : Tr (f_X5_init 39 h) (fun _ h1 => Zi L xs 43 (t + 360 + 60 + 60 + 60) ((39, 3) :: (39, 2) :: (39, 1) :: (39, 0) :: D) c W Y h1) := by
  refine Tr.nm (fun h1 eh1 => ?_)
  have zh1 := z.nw (m := 40) (kd := 20) (len := 360) (sl := 360) rfl rfl
  rw [← eh1] at zh1
  clear eh1
  rw [z.1]
  refine Tr.ck (zh1.o (ci := 5) (a := 39) rfl (by decide) (by decide)) ?_
  refine Tr.nm (fun h5 eh5 => ?_)
  have zh5 := (zh1.sP (a := 39) (k := 0) (v := 39 + 1) rfl (by decide) (by decide))
  rw [← eh5] at zh5
  clear eh5
  refine Tr.nm (fun h8 eh8 => ?_)
  have zh8 := zh5.nw (m := 41) (kd := 20) (len := 60) (sl := 60) rfl rfl
  rw [← eh8] at zh8
  clear eh8
  rw [zh5.1]
  refine Tr.ck (zh8.o (ci := 5) (a := 39) rfl (by decide) (by decide)) ?_
  refine Tr.nm (fun h12 eh12 => ?_)
  have zh12 := (zh8.sP (a := 39) (k := 1) (v := 40 + 1) rfl (by decide) (by decide))
  rw [← eh12] at zh12
  clear eh12
  refine Tr.nm (fun h15 eh15 => ?_)
  have zh15 := zh12.nw (m := 42) (kd := 21) (len := 60) (sl := 60) rfl rfl
  rw [← eh15] at zh15
  clear eh15
  rw [zh12.1]
  refine Tr.ck (zh15.o (ci := 5) (a := 39) rfl (by decide) (by decide)) ?_
  refine Tr.nm (fun h19 eh19 => ?_)
  have zh19 := (zh15.sP (a := 39) (k := 2) (v := 41 + 1) rfl (by decide) (by decide))
  rw [← eh19] at zh19
  clear eh19
  refine Tr.nm (fun h22 eh22 => ?_)
  have zh22 := zh19.nw (m := 43) (kd := 20) (len := 60) (sl := 60) rfl rfl
  rw [← eh22] at zh22
  clear eh22
  rw [zh19.1]
  refine Tr.ck (zh22.o (ci := 5) (a := 39) rfl (by decide) (by decide)) ?_
  exact Tr.ret ((zh22.sP (a := 39) (k := 3) (v := 42 + 1) rfl (by decide) (by decide)).sI (a := 39) (k := 4) (x := 0) (Or.inl rfl) (by decide) (fun q hq => Or.inr (by have := hy q hq; omega)))
theorem ini_X6_44 (z : Zi L xs 44 t D c W Y h) (hy : ∀ q ∈ Y, q + 2 < 44) : Tr (f_X6_init 44 h) (fun _ h1 => Zi L xs 45 (t + 64) ((44, 0) :: D) c W Y h1) := by
  refine Tr.nm (fun h1 eh1 => ?_)
  have zh1 := z.nw (m := 45) (kd := 22) (len := 64) (sl := 64) rfl rfl
  rw [← eh1] at zh1
  clear eh1
  rw [z.1]
  refine Tr.ck (zh1.o (ci := 6) (a := 44) rfl (by decide) (by decide)) ?_
  exact Tr.ret (zh1.sP (a := 44) (k := 0) (v := 44 + 1) rfl (by decide) (by decide))
theorem ini_X0_46 (z : Zi L xs 46 t D c W Y h) (hy : ∀ q ∈ Y, q + 2 < 46) : Tr (f_X0_init 46 h) (fun _ h1 => Zi L xs 53 (t + 64 + 64 + 85 + 85 + 340 + 64 + 85) ((46, 9) :: (46, 8) :: (46, 4) :: (46, 3) :: (46, 2) :: (46, 1) :: (46, 0) :: D) c W Y h1) := by
  refine Tr.nm (fun h1 eh1 => ?_)
  have zh1 := z.nw (m := 47) (kd := 22) (len := 64) (sl := 64) rfl rfl
  rw [← eh1] at zh1
  clear eh1
  rw [z.1]
  refine Tr.ck (zh1.o (ci := 0) (a := 46) rfl (by decide) (by decide)) ?_
  refine Tr.nm (fun h5 eh5 => ?_)
  have zh5 := (zh1.sP (a := 46) (k := 0) (v := 46 + 1) rfl (by decide) (by decide))
  rw [← eh5] at zh5
  clear eh5
  refine Tr.nm (fun h8 eh8 => ?_)
  have zh8 := zh5.nw (m := 48) (kd := 22) (len := 64) (sl := 64) rfl rfl
  rw [← eh8] at zh8
  clear eh8
  rw [zh5.1]
  refine Tr.ck (zh8.o (ci := 0) (a := 46) rfl (by decide) (by decide)) ?_
  refine Tr.nm (fun h12 eh12 => ?_)
  have zh12 := (zh8.sP (a := 46) (k := 1) (v := 47 + 1) rfl (by decide) (by decide))
  rw [← eh12] at zh12
  clear eh12
  refine Tr.nm (fun h15 eh15 => ?_)
  have zh15 := zh12.nw (m := 49) (kd := 20) (len := 85) (sl := 85) rfl rfl
  rw [← eh15] at zh15
  clear eh15
  rw [zh12.1]
  refine Tr.ck (zh15.o (ci := 0) (a := 46) rfl (by decide) (by decide)) ?_
  refine Tr.nm (fun h19 eh19 => ?_)
  have zh19 := (zh15.sP (a := 46) (k := 2) (v := 48 + 1) rfl (by decide) (by decide))
  rw [← eh19] at zh19
  clear eh19
  refine Tr.nm (fun h22 eh22 => ?_)
  have zh22 := zh19.nw (m := 50) (kd := 20) (len := 85) (sl := 85) rfl rfl
  rw [← eh22] at zh22
  clear eh22
  rw [zh19.1]
  refine Tr.ck (zh22.o (ci := 0) (a := 46) rfl (by decide) (by decide)) ?_
  refine Tr.nm (fun h26 eh26 => ?_)
  have zh26 := (zh22.sP (a := 46) (k := 3) (v := 49 + 1) rfl (by decide) (by decide))
  rw [← eh26] at zh26
  clear eh26
  refine Tr.nm (fun h29 eh29 => ?_)
  have zh29 := zh26.nw (m := 51) (kd := 20) (len := 340) (sl := 340) rfl rfl
  rw [← eh29] at zh29
  clear eh29
  rw [zh26.1]
  refine Tr.ck (zh29.o (ci := 0) (a := 46) rfl (by decide) (by decide)) ?_
  refine Tr.nm (fun h33 eh33 => ?_)
  have zh33 := (((zh29.sP (a := 46) (k := 4) (v := 50 + 1) rfl (by decide) (by decide)).sI (a := 46) (k := 5) (x := 0) (Or.inl rfl) (by decide) (fun q hq => Or.inr (by have := hy q hq; omega))).sI (a := 46) (k := 6) (x := 0) (Or.inl rfl) (by decide) (fun q hq => Or.inr (by have := hy q hq; omega)))
  rw [← eh33] at zh33
  clear eh33
  refine Tr.nm (fun h36 eh36 => ?_)
  have zh36 := (zh33.sI (a := 46) (k := 7) (x := 0) (Or.inl rfl) (by decide) (fun q hq => Or.inr (by have := hy q hq; omega)))
  rw [← eh36] at zh36
  clear eh36
  refine Tr.nm (fun h39 eh39 => ?_)
  have zh39 := zh36.nw (m := 52) (kd := 20) (len := 64) (sl := 64) rfl rfl
  rw [← eh39] at zh39
  clear eh39
  rw [zh36.1]
  refine Tr.ck (zh39.o (ci := 0) (a := 46) rfl (by decide) (by decide)) ?_
  refine Tr.nm (fun h43 eh43 => ?_)
  have zh43 := (zh39.sP (a := 46) (k := 8) (v := 51 + 1) rfl (by decide) (by decide))
  rw [← eh43] at zh43
  clear eh43
  refine Tr.nm (fun h46 eh46 => ?_)
  have zh46 := zh43.nw (m := 53) (kd := 20) (len := 85) (sl := 85) rfl rfl
  rw [← eh46] at zh46
  clear eh46
  rw [zh43.1]
  refine Tr.ck (zh46.o (ci := 0) (a := 46) rfl (by decide) (by decide)) ?_
  exact Tr.ret (zh46.sP (a := 46) (k := 9) (v := 52 + 1) rfl (by decide) (by decide))
theorem ini_X8_54 (z : Zi L xs 54 t D c W Y h) (hy : ∀ q ∈ Y, q + 2 < 54) : Tr (f_X8_init 54 h) (fun _ h1 => Zi L xs 56 (t + 64 + 64) ((54, 1) :: (54, 0) :: D) c W Y h1) := by
  refine Tr.nm (fun h1 eh1 => ?_)
  have zh1 := z.nw (m := 55) (kd := 20) (len := 64) (sl := 64) rfl rfl
  rw [← eh1] at zh1
  clear eh1
  rw [z.1]
  refine Tr.ck (zh1.o (ci := 8) (a := 54) rfl (by decide) (by decide)) ?_
  refine Tr.nm (fun h5 eh5 => ?_)
  have zh5 := (zh1.sP (a := 54) (k := 0) (v := 54 + 1) rfl (by decide) (by decide))
  rw [← eh5] at zh5
  clear eh5
  refine Tr.nm (fun h8 eh8 => ?_)
  have zh8 := zh5.nw (m := 56) (kd := 20) (len := 64) (sl := 64) rfl rfl
  rw [← eh8] at zh8
  clear eh8
  rw [zh5.1]
  refine Tr.ck (zh8.o (ci := 8) (a := 54) rfl (by decide) (by decide)) ?_
  exact Tr.ret ((zh8.sP (a := 54) (k := 1) (v := 55 + 1) rfl (by decide) (by decide)).sI (a := 54) (k := 2) (x := 0) (Or.inl rfl) (by decide) (fun q hq => Or.inr (by have := hy q hq; omega)))
theorem ini_X7_35 (z : Zi L xs 35 t D c W Y h) (hy : ∀ q ∈ Y, q + 2 < 35) (hW : ∀ a ∈ W, a < 35) : Tr (f_X7_init 35 h) (fun _ h1 => Zi L xs 56 (t + 4 + 60 + 60 + 5 + 360 + 60 + 60 + 60 + 1 + 64 + 10 + 64 + 64 + 85 + 85 + 340 + 64 + 85 + 3 + 64 + 64) ((35, 4) :: (54, 1) :: (54, 0) :: (35, 3) :: (46, 9) :: (46, 8) :: (46, 4) :: (46, 3) :: (46, 2) :: (46, 1) :: (46, 0) :: (35, 2) :: (44, 0) :: (35, 1) :: (39, 3) :: (39, 2) :: (39, 1) :: (39, 0) :: (35, 0) :: (36, 1) :: (36, 0) :: D) c (36 :: (36 + 1) :: (36 + 2) :: W) (36 :: Y) h1) := by
  refine Tr.nm (fun h1 eh1 => ?_)
  have zh1 := z.nw (m := 36) (kd := 4) (len := 0) (sl := 4) rfl rfl
  rw [← eh1] at zh1
  clear eh1
  rw [z.1]
  refine Tr.bd (ini_X4_36 zh1 (fun q hq => by have := hy q hq; omega)) (fun _ h4 zh4 => ?_)
  refine Tr.ck (zh4.o (ci := 7) (a := 35) rfl (by decide) (by decide)) ?_
  refine Tr.nm (fun h6 eh6 => ?_)
  have zh6 := (zh4.sP (a := 35) (k := 0) (v := 35 + 1) rfl (by decide) (by decide))
  rw [← eh6] at zh6
  clear eh6
  refine Tr.nm (fun h9 eh9 => ?_)
  have zh9 := zh6.nw (m := 39) (kd := 5) (len := 0) (sl := 5) rfl rfl
  rw [← eh9] at zh9
  clear eh9
  rw [zh6.1]
  refine Tr.bd (ini_X5_39 zh9 (fun q hq => by have := hy q hq; omega)) (fun _ h12 zh12 => ?_)
  refine Tr.ck (zh12.o (ci := 7) (a := 35) rfl (by decide) (by decide)) ?_
  refine Tr.nm (fun h14 eh14 => ?_)
  have zh14 := (zh12.sP (a := 35) (k := 1) (v := 38 + 1) rfl (by decide) (by decide))
  rw [← eh14] at zh14
  clear eh14
  refine Tr.nm (fun h17 eh17 => ?_)
  have zh17 := zh14.nw (m := 44) (kd := 6) (len := 0) (sl := 1) rfl rfl
  rw [← eh17] at zh17
  clear eh17
  rw [zh14.1]
  refine Tr.bd (ini_X6_44 zh17 (fun q hq => by have := hy q hq; omega)) (fun _ h20 zh20 => ?_)
  refine Tr.ck (zh20.o (ci := 7) (a := 35) rfl (by decide) (by decide)) ?_
  refine Tr.nm (fun h22 eh22 => ?_)
  have zh22 := (zh20.sP (a := 35) (k := 2) (v := 43 + 1) rfl (by decide) (by decide))
  rw [← eh22] at zh22
  clear eh22
  refine Tr.nm (fun h25 eh25 => ?_)
  have zh25 := zh22.nw (m := 46) (kd := 0) (len := 0) (sl := 10) rfl rfl
  rw [← eh25] at zh25
  clear eh25
  rw [zh22.1]
  refine Tr.bd (ini_X0_46 zh25 (fun q hq => by have := hy q hq; omega)) (fun _ h28 zh28 => ?_)
  refine Tr.ck (zh28.o (ci := 7) (a := 35) rfl (by decide) (by decide)) ?_
  refine Tr.nm (fun h30 eh30 => ?_)
  have zh30 := (zh28.sP (a := 35) (k := 3) (v := 45 + 1) rfl (by decide) (by decide))
  rw [← eh30] at zh30
  clear eh30
  refine Tr.nm (fun h33 eh33 => ?_)
  have zh33 := zh30.nw (m := 54) (kd := 8) (len := 0) (sl := 3) rfl rfl
  rw [← eh33] at zh33
  clear eh33
  rw [zh30.1]
  refine Tr.bd (ini_X8_54 zh33 (fun q hq => by have := hy q hq; omega)) (fun _ h36 zh36 => ?_)
  refine Tr.ck (zh36.o (ci := 7) (a := 35) rfl (by decide) (by decide)) ?_
  have zx := ((zh36.sP (a := 35) (k := 4) (v := 53 + 1) rfl (by decide) (by decide)).sI (a := 35) (k := 5) (x := 0) (Or.inl rfl) (by decide) (fun q hq => Or.inr (by have := hy q hq; omega)))
  generalize (sI (sP h36 35 4 (some (53 + 1))) 35 5 0) = hx at zx ⊢
  refine Tr.gp (x := 36) (zx.p (List.mem_cons_of_mem _ (List.mem_cons_of_mem _ (List.mem_cons_of_mem _ (List.mem_cons_of_mem _ (List.mem_cons_of_mem _ (List.mem_cons_of_mem _ (List.mem_cons_of_mem _ (List.mem_cons_of_mem _ (List.mem_cons_of_mem _ (List.mem_cons_of_mem _ (List.mem_cons_of_mem _ (List.mem_cons_of_mem _ (List.mem_cons_of_mem _ (List.mem_cons_of_mem _ (List.mem_cons_of_mem _ (List.mem_cons_of_mem _ (List.mem_cons_of_mem _ (List.mem_cons_of_mem _ List.mem_cons_self)))))))))))))))))) rfl) ?_
  refine Tr.ck (zx.o (ci := 4) (a := 36) rfl (by decide) (by decide)) ?_
  refine Tr.be (X4_first zx (p := 36) (by decide) (by decide) rfl rfl rfl (zx.p (List.mem_cons_of_mem _ (List.mem_cons_of_mem _ (List.mem_cons_of_mem _ (List.mem_cons_of_mem _ (List.mem_cons_of_mem _ (List.mem_cons_of_mem _ (List.mem_cons_of_mem _ (List.mem_cons_of_mem _ (List.mem_cons_of_mem _ (List.mem_cons_of_mem _ (List.mem_cons_of_mem _ (List.mem_cons_of_mem _ (List.mem_cons_of_mem _ (List.mem_cons_of_mem _ (List.mem_cons_of_mem _ (List.mem_cons_of_mem _ (List.mem_cons_of_mem _ (List.mem_cons_of_mem _ (List.mem_cons_of_mem _ (List.mem_cons_of_mem _ List.mem_cons_self)))))))))))))))))))) rfl) (zx.p (List.mem_cons_of_mem _ (List.mem_cons_of_mem _ (List.mem_cons_of_mem _ (List.mem_cons_of_mem _ (List.mem_cons_of_mem _ (List.mem_cons_of_mem _ (List.mem_cons_of_mem _ (List.mem_cons_of_mem _ (List.mem_cons_of_mem _ (List.mem_cons_of_mem _ (List.mem_cons_of_mem _ (List.mem_cons_of_mem _ (List.mem_cons_of_mem _ (List.mem_cons_of_mem _ (List.mem_cons_of_mem _ (List.mem_cons_of_mem _ (List.mem_cons_of_mem _ (List.mem_cons_of_mem _ (List.mem_cons_of_mem _ List.mem_cons_self))))))))))))))))))) rfl) (fun m => absurd (hW _ m) (by decide)) (fun m => absurd (hW _ m) (by decide)) (fun m => absurd (hW _ m) (by decide))) ?_
  have o7 : isO (sI (sI (sI hx (36 + 1) 0 16) (36 + 2) 0 0) 36 2 1) 35 7 := zx.o rfl (by decide) (by decide)
  have o4 : isO (sI (sI (sI hx (36 + 1) 0 16) (36 + 2) 0 0) 36 2 1) 36 4 := zx.o rfl (by decide) (by decide)
  have g0 : gP (sI (sI (sI hx (36 + 1) 0 16) (36 + 2) 0 0) 36 2 1) 35 0 = some 36 := zx.p (List.mem_cons_of_mem _ (List.mem_cons_of_mem _ (List.mem_cons_of_mem _ (List.mem_cons_of_mem _ (List.mem_cons_of_mem _ (List.mem_cons_of_mem _ (List.mem_cons_of_mem _ (List.mem_cons_of_mem _ (List.mem_cons_of_mem _ (List.mem_cons_of_mem _ (List.mem_cons_of_mem _ (List.mem_cons_of_mem _ (List.mem_cons_of_mem _ (List.mem_cons_of_mem _ (List.mem_cons_of_mem _ (List.mem_cons_of_mem _ (List.mem_cons_of_mem _ (List.mem_cons_of_mem _ List.mem_cons_self)))))))))))))))))) rfl
  refine Tr.ck o7 (Tr.gp g0 (Tr.ck o4 (Tr.be (r := ()) (h1 := sI (sI (sI (sI hx (36 + 1) 0 16) (36 + 2) 0 0) 36 2 1) 36 3 1) (Tr.of_eq (Tr.bz (Or.inr rfl) (Tr.ck o4 (Tr.ret ⟨rfl, rfl⟩)))) ?_)))
  exact Tr.ret (zx.pol (p := 36) (by decide) (by decide) (fun m => absurd (hW _ m) (by decide)) (fun q hq => by have := hy q hq; omega))
theorem ini_X5_61 (z : Zi L xs 61 t D c W Y h) (hy : ∀ q ∈ Y, q + 2 < 61) : Tr (f_X5_init 61 h) (fun _ h1 => Zi L xs 65 (t + 360 + 60 + 60 + 60) ((61, 3) :: (61, 2) :: (61, 1) :: (61, 0) :: D) c W Y h1) := by
  refine Tr.nm (fun h1 eh1 => ?_)
  have zh1 := z.nw (m := 62) (kd := 20) (len := 360) (sl := 360) rfl rfl
  rw [← eh1] at zh1
  clear eh1
  rw [z.1]
  refine Tr.ck (zh1.o (ci := 5) (a := 61) rfl (by decide) (by decide)) ?_
  refine Tr.nm (fun h5 eh5 => ?_)
  have zh5 := (zh1.sP (a := 61) (k := 0) (v := 61 + 1) rfl (by decide) (by decide))
  rw [← eh5] at zh5
  clear eh5
  refine Tr.nm (fun h8 eh8 => ?_)
  have zh8 := zh5.nw (m := 63) (kd := 20) (len := 60) (sl := 60) rfl rfl
  rw [← eh8] at zh8
  clear eh8
  rw [zh5.1]
  refine Tr.ck (zh8.o (ci := 5) (a := 61) rfl (by decide) (by decide)) ?_
  refine Tr.nm (fun h12 eh12 => ?_)
  have zh12 := (zh8.sP (a := 61) (k := 1) (v := 62 + 1) rfl (by decide) (by decide))
  rw [← eh12] at zh12
  clear eh12
  refine Tr.nm (fun h15 eh15 => ?_)
  have zh15 := zh12.nw (m := 64) (kd := 21) (len := 60) (sl := 60) rfl rfl
  rw [← eh15] at zh15
  clear eh15
  rw [zh12.1]
  refine Tr.ck (zh15.o (ci := 5) (a := 61) rfl (by decide) (by decide)) ?_
  refine Tr.nm (fun h19 eh19 => ?_)
  have zh19 := (zh15.sP (a := 61) (k := 2) (v := 63 + 1) rfl (by decide) (by decide))
  rw [← eh19] at zh19
  clear eh19
  refine Tr.nm (fun h22 eh22 => ?_)
  have zh22 := zh19.nw (m := 65) (kd := 20) (len := 60) (sl := 60) rfl rfl
  rw [← eh22] at zh22
  clear eh22
  rw [zh19.1]
  refine Tr.ck (zh22.o (ci := 5) (a := 61) rfl (by decide) (by decide)) ?_
  exact Tr.ret ((zh22.sP (a := 61) (k := 3) (v := 64 + 1) rfl (by decide) (by decide)).sI (a := 61) (k := 4) (x := 0) (Or.inl rfl) (by decide) (fun q hq => Or.inr (by have := hy q hq; omega)))
theorem ini_X6_66 (z : Zi L xs 66 t D c W Y h) (hy : ∀ q ∈ Y, q + 2 < 66) : Tr (f_X6_init 66 h) (fun _ h1 => Zi L xs 67 (t + 64) ((66, 0) :: D) c W Y h1) := by
  refine Tr.nm (fun h1 eh1 => ?_)
  have zh1 := z.nw (m := 67) (kd := 22) (len := 64) (sl := 64) rfl rfl
  rw [← eh1] at zh1
  clear eh1
  rw [z.1]
  refine Tr.ck (zh1.o (ci := 6) (a := 66) rfl (by decide) (by decide)) ?_
  exact Tr.ret (zh1.sP (a := 66) (k := 0) (v := 66 + 1) rfl (by decide) (by decide))
theorem ini_X0_68 (z : Zi L xs 68 t D c W Y h) (hy : ∀ q ∈ Y, q + 2 < 68) : Tr (f_X0_init 68 h) (fun _ h1 => Zi L xs 75 (t + 64 + 64 + 85 + 85 + 340 + 64 + 85) ((68, 9) :: (68, 8) :: (68, 4) :: (68, 3) :: (68, 2) :: (68, 1) :: (68, 0) :: D) c W Y h1) := by
  refine Tr.nm (fun h1 eh1 => ?_)
  have zh1 := z.nw (m := 69) (kd := 22) (len := 64) (sl := 64) rfl rfl
  rw [← eh1] at zh1
  clear eh1
  rw [z.1]
  refine Tr.ck (zh1.o (ci := 0) (a := 68) rfl (by decide) (by decide)) ?_
  refine Tr.nm (fun h5 eh5 => ?_)
  have zh5 := (zh1.sP (a := 68) (k := 0) (v := 68 + 1) rfl (by decide) (by decide))
  rw [← eh5] at zh5
  clear eh5
  refine Tr.nm (fun h8 eh8 => ?_)
  have zh8 := zh5.nw (m := 70) (kd := 22) (len := 64) (sl := 64) rfl rfl
  rw [← eh8] at zh8
  clear eh8
  rw [zh5.1]
  refine Tr.ck (zh8.o (ci := 0) (a := 68) rfl (by decide) (by decide)) ?_
  refine Tr.nm (fun h12 eh12 => ?_)
  have zh12 := (zh8.sP (a := 68) (k := 1) (v := 69 + 1) rfl (by decide) (by decide))
  rw [← eh12] at zh12
  clear eh12
  refine Tr.nm (fun h15 eh15 => ?_)
  have zh15 := zh12.nw (m := 71) (kd := 20) (len := 85) (sl := 85) rfl rfl
  rw [← eh15] at zh15
  clear eh15
  rw [zh12.1]
  refine Tr.ck (zh15.o (ci := 0) (a := 68) rfl (by decide) (by decide)) ?_
  refine Tr.nm (fun h19 eh19 => ?_)
  have zh19 := (zh15.sP (a := 68) (k := 2) (v := 70 + 1) rfl (by decide) (by decide))
  rw [← eh19] at zh19
  clear eh19
  refine Tr.nm (fun h22 eh22 => ?_)
  have zh22 := zh19.nw (m := 72) (kd := 20) (len := 85) (sl := 85) rfl rfl
  rw [← eh22] at zh22
  clear eh22
  rw [zh19.1]
  refine Tr.ck (zh22.o (ci := 0) (a := 68) rfl (by decide) (by decide)) ?_
  refine Tr.nm (fun h26 eh26 => ?_)
  have zh26 := (zh22.sP (a := 68) (k := 3) (v := 71 + 1) rfl (by decide) (by decide))
  rw [← eh26] at zh26
  clear eh26
  refine Tr.nm (fun h29 eh29 => ?_)
  have zh29 := zh26.nw (m := 73) (kd := 20) (len := 340) (sl := 340) rfl rfl
  rw [← eh29] at zh29
  clear eh29
  rw [zh26.1]
  refine Tr.ck (zh29.o (ci := 0) (a := 68) rfl (by decide) (by decide)) ?_
  refine Tr.nm (fun h33 eh33 => ?_)
  have zh33 := (((zh29.sP (a := 68) (k := 4) (v := 72 + 1) rfl (by decide) (by decide)).sI (a := 68) (k := 5) (x := 0) (Or.inl rfl) (by decide) (fun q hq => Or.inr (by have := hy q hq; omega))).sI (a := 68) (k := 6) (x := 0) (Or.inl rfl) (by decide) (fun q hq => Or.inr (by have := hy q hq; omega)))
  rw [← eh33] at zh33
  clear eh33
  refine Tr.nm (fun h36 eh36 => ?_)
  have zh36 := (zh33.sI (a := 68) (k := 7) (x := 0) (Or.inl rfl) (by decide) (fun q hq => Or.inr (by have := hy q hq; omega)))
  rw [← eh36] at zh36
  clear eh36
  refine Tr.nm (fun h39 eh39 => ?_)
  have zh39 := zh36.nw (m := 74) (kd := 20) (len := 64) (sl := 64) rfl rfl
  rw [← eh39] at zh39
  clear eh39
  rw [zh36.1]
  refine Tr.ck (zh39.o (ci := 0) (a := 68) rfl (by decide) (by decide)) ?_
  refine Tr.nm (fun h43 eh43 => ?_)
  have zh43 := (zh39.sP (a := 68) (k := 8) (v := 73 + 1) rfl (by decide) (by decide))
  rw [← eh43] at zh43
  clear eh43
  refine Tr.nm (fun h46 eh46 => ?_)
  have zh46 := zh43.nw (m := 75) (kd := 20) (len := 85) (sl := 85) rfl rfl
  rw [← eh46] at zh46
  clear eh46
  rw [zh43.1]
  refine Tr.ck (zh46.o (ci := 0) (a := 68) rfl (by decide) (by decide)) ?_
  exact Tr.ret (zh46.sP (a := 68) (k := 9) (v := 74 + 1) rfl (by decide) (by decide))
theorem ini_X8_76 (z : Zi L xs 76 t D c W Y h) (hy : ∀ q ∈ Y, q + 2 < 76) : Tr (f_X8_init 76 h) (fun _ h1 => Zi L xs 78 (t + 64 + 64) ((76, 1) :: (76, 0) :: D) c W Y h1) := by
  refine Tr.nm (fun h1 eh1 => ?_)
  have zh1 := z.nw (m := 77) (kd := 20) (len := 64) (sl := 64) rfl rfl
  rw [← eh1] at zh1
  clear eh1
  rw [z.1]
  refine Tr.ck (zh1.o (ci := 8) (a := 76) rfl (by decide) (by decide)) ?_
  refine Tr.nm (fun h5 eh5 => ?_)
  have zh5 := (zh1.sP (a := 76) (k := 0) (v := 76 + 1) rfl (by decide) (by decide))
  rw [← eh5] at zh5
  clear eh5
  refine Tr.nm (fun h8 eh8 => ?_)
  have zh8 := zh5.nw (m := 78) (kd := 20) (len := 64) (sl := 64) rfl rfl
  rw [← eh8] at zh8
  clear eh8
  rw [zh5.1]
  refine Tr.ck (zh8.o (ci := 8) (a := 76) rfl (by decide) (by decide)) ?_
  exact Tr.ret ((zh8.sP (a := 76) (k := 1) (v := 77 + 1) rfl (by decide) (by decide)).sI (a := 76) (k := 2) (x := 0) (Or.inl rfl) (by decide) (fun q hq => Or.inr (by have := hy q hq; omega)))
theorem ini_X7_57 (z : Zi L xs 57 t D c W Y h) (hy : ∀ q ∈ Y, q + 2 < 57) (hW : ∀ a ∈ W, a < 57) : Tr (f_X7_init 57 h) (fun _ h1 => Zi L xs 78 (t + 4 + 60 + 60 + 5 + 360 + 60 + 60 + 60 + 1 + 64 + 10 + 64 + 64 + 85 + 85 + 340 + 64 + 85 + 3 + 64 + 64) ((57, 4) :: (76, 1) :: (76, 0) :: (57, 3) :: (68, 9) :: (68, 8) :: (68, 4) :: (68, 3) :: (68, 2) :: (68, 1) :: (68, 0) :: (57, 2) :: (66, 0) :: (57, 1) :: (61, 3) :: (61, 2) :: (61, 1) :: (61, 0) :: (57, 0) :: (58, 1) :: (58, 0) :: D) c (58 :: (58 + 1) :: (58 + 2) :: W) (58 :: Y) h1) := by
  refine Tr.nm (fun h1 eh1 => ?_)
  have zh1 := z.nw (m := 58) (kd := 4) (len := 0) (sl := 4) rfl rfl
  rw [← eh1] at zh1
  clear eh1
  rw [z.1]
  refine Tr.bd (ini_X4_58 zh1 (fun q hq => by have := hy q hq; omega)) (fun _ h4 zh4 => ?_)
  refine Tr.ck (zh4.o (ci := 7) (a := 57) rfl (by decide) (by decide)) ?_
  refine Tr.nm (fun h6 eh6 => ?_)
  have zh6 := (zh4.sP (a := 57) (k := 0) (v := 57 + 1) rfl (by decide) (by decide))
  rw [← eh6] at zh6
  clear eh6
  refine Tr.nm (fun h9 eh9 => ?_)
  have zh9 := zh6.nw (m := 61) (kd := 5) (len := 0) (sl := 5) rfl rfl
  rw [← eh9] at zh9
  clear eh9
  rw [zh6.1]
  refine Tr.bd (ini_X5_61 zh9 (fun q hq => by have := hy q hq; omega)) (fun _ h12 zh12 => ?_)
  refine Tr.ck (zh12.o (ci := 7) (a := 57) rfl (by decide) (by decide)) ?_
  refine Tr.nm (fun h14 eh14 => ?_)
  have zh14 := (zh12.sP (a := 57) (k := 1) (v := 60 + 1) rfl (by decide) (by decide))
  rw [← eh14] at zh14
  clear eh14
  refine Tr.nm (fun h17 eh17 => ?_)
  have zh17 := zh14.nw (m := 66) (kd := 6) (len := 0) (sl := 1) rfl rfl
  rw [← eh17] at zh17
  clear eh17
  rw [zh14.1]
  refine Tr.bd (ini_X6_66 zh17 (fun q hq => by have := hy q hq; omega)) (fun _ h20 zh20 => ?_)
  refine Tr.ck (zh20.o (ci := 7) (a := 57) rfl (by decide) (by decide)) ?_
  refine Tr.nm (fun h22 eh22 => ?_)
  have zh22 := (zh20.sP (a := 57) (k := 2) (v := 65 + 1) rfl (by decide) (by decide))
  rw [← eh22] at zh22
  clear eh22
  refine Tr.nm (fun h25 eh25 => ?_)
  have zh25 := zh22.nw (m := 68) (kd := 0) (len := 0) (sl := 10) rfl rfl
  rw [← eh25] at zh25
  clear eh25
  rw [zh22.1]
  refine Tr.bd (ini_X0_68 zh25 (fun q hq => by have := hy q hq; omega)) (fun _ h28 zh28 => ?_)
  refine Tr.ck (zh28.o (ci := 7) (a := 57) rfl (by decide) (by decide)) ?_
  refine Tr.nm (fun h30 eh30 => ?_)
  have zh30 := (zh28.sP (a := 57) (k := 3) (v := 67 + 1) rfl (by decide) (by decide))
  rw [← eh30] at zh30
  clear eh30
  refine Tr.nm (fun h33 eh33 => ?_)
  have zh33 := zh30.nw (m := 76) (kd := 8) (len := 0) (sl := 3) rfl rfl
  rw [← eh33] at zh33
  clear eh33
  rw [zh30.1]
  refine Tr.bd (ini_X8_76 zh33 (fun q hq => by have := hy q hq; omega)) (fun _ h36 zh36 => ?_)
  refine Tr.ck (zh36.o (ci := 7) (a := 57) rfl (by decide) (by decide)) ?_
  have zx := ((zh36.sP (a := 57) (k := 4) (v := 75 + 1) rfl (by decide) (by decide)).sI (a := 57) (k := 5) (x := 0) (Or.inl rfl) (by decide) (fun q hq => Or.inr (by have := hy q hq; omega)))
  generalize (sI (sP h36 57 4 (some (75 + 1))) 57 5 0) = hx at zx ⊢
  refine Tr.gp (x := 58) (zx.p (List.mem_cons_of_mem _ (List.mem_cons_of_mem _ (List.mem_cons_of_mem _ (List.mem_cons_of_mem _ (List.mem_cons_of_mem _ (List.mem_cons_of_mem _ (List.mem_cons_of_mem _ (List.mem_cons_of_mem _ (List.mem_cons_of_mem _ (List.mem_cons_of_mem _ (List.mem_cons_of_mem _ (List.mem_cons_of_mem _ (List.mem_cons_of_mem _ (List.mem_cons_of_mem _ (List.mem_cons_of_mem _ (List.mem_cons_of_mem _ (List.mem_cons_of_mem _ (List.mem_cons_of_mem _ List.mem_cons_self)))))))))))))))))) rfl) ?_
  refine Tr.ck (zx.o (ci := 4) (a := 58) rfl (by decide) (by decide)) ?_
  refine Tr.be (X4_first zx (p := 58) (by decide) (by decide) rfl rfl rfl (zx.p (List.mem_cons_of_mem _ (List.mem_cons_of_mem _ (List.mem_cons_of_mem _ (List.mem_cons_of_mem _ (List.mem_cons_of_mem _ (List.mem_cons_of_mem _ (List.mem_cons_of_mem _ (List.mem_cons_of_mem _ (List.mem_cons_of_mem _ (List.mem_cons_of_mem _ (List.mem_cons_of_mem _ (List.mem_cons_of_mem _ (List.mem_cons_of_mem _ (List.mem_cons_of_mem _ (List.mem_cons_of_mem _ (List.mem_cons_of_mem _ (List.mem_cons_of_mem _ (List.mem_cons_of_mem _ (List.mem_cons_of_mem _ (List.mem_cons_of_mem _ List.mem_cons_self)))))))))))))))))))) rfl) (zx.p (List.mem_cons_of_mem _ (List.mem_cons_of_mem _ (List.mem_cons_of_mem _ (List.mem_cons_of_mem _ (List.mem_cons_of_mem _ (List.mem_cons_of_mem _ (List.mem_cons_of_mem _ (List.mem_cons_of_mem _ (List.mem_cons_of_mem _ (List.mem_cons_of_mem _ (List.mem_cons_of_mem _ (List.mem_cons_of_mem _ (List.mem_cons_of_mem _ (List.mem_cons_of_mem _ (List.mem_cons_of_mem _ (List.mem_cons_of_mem _ (List.mem_cons_of_mem _ (List.mem_cons_of_mem _ (List.mem_cons_of_mem _ List.mem_cons_self))))))))))))))))))) rfl) (fun m => absurd (hW _ m) (by decide)) (fun m => absurd (hW _ m) (by decide)) (fun m => absurd (hW _ m) (by decide))) ?_
  have o7 : isO (sI (sI (sI hx (58 + 1) 0 16) (58 + 2) 0 0) 58 2 1) 57 7 := zx.o rfl (by decide) (by decide)
  have o4 : isO (sI (sI (sI hx (58 + 1) 0 16) (58 + 2) 0 0) 58 2 1) 58 4 := zx.o rfl (by decide) (by decide)
  have g0 : gP (sI (sI (sI hx (58 + 1) 0 16) (58 + 2) 0 0) 58 2 1) 57 0 = some 58 := zx.p (List.mem_cons_of_mem _ (List.mem_cons_of_mem _ (List.mem_cons_of_mem _ (List.mem_cons_of_mem _ (List.mem_cons_of_mem _ (List.mem_cons_of_mem _ (List.mem_cons_of_mem _ (List.mem_cons_of_mem _ (List.mem_cons_of_mem _ (List.mem_cons_of_mem _ (List.mem_cons_of_mem _ (List.mem_cons_of_mem _ (List.mem_cons_of_mem _ (List.mem_cons_of_mem _ (List.mem_cons_of_mem _ (List.mem_cons_of_mem _ (List.mem_cons_of_mem _ (List.mem_cons_of_mem _ List.mem_cons_self)))))))))))))))))) rfl
  refine Tr.ck o7 (Tr.gp g0 (Tr.ck o4 (Tr.be (r := ()) (h1 := sI (sI (sI (sI hx (58 + 1) 0 16) (58 + 2) 0 0) 58 2 1) 58 3 1) (Tr.of_eq (Tr.bz (Or.inr rfl) (Tr.ck o4 (Tr.ret ⟨rfl, rfl⟩)))) ?_)))
  exact Tr.ret (zx.pol (p := 58) (by decide) (by decide) (fun m => absurd (hW _ m) (by decide)) (fun q hq => by have := hy q hq; omega))
theorem ini_X5_83 (z : Zi L xs 83 t D c W Y h) (hy : ∀ q ∈ Y, q + 2 < 83) : Tr (f_X5_init 83 h) (fun _ h1 => Zi L xs 87 (t + 360 + 60 + 60 + 60) ((83, 3) :: (83, 2) :: (83, 1) :: (83, 0) :: D) c W Y h1) := by
  refine Tr.nm (fun h1 eh1 => ?_)
  have zh1 := z.nw (m := 84) (kd := 20) (len := 360) (sl := 360) rfl rfl
  rw [← eh1] at zh1
  clear eh1
  rw [z.1]
  refine Tr.ck (zh1.o (ci := 5) (a := 83) rfl (by decide) (by decide)) ?_
  refine Tr.nm (fun h5 eh5 => ?_)
  have zh5 := (zh1.sP (a := 83) (k := 0) (v := 83 + 1) rfl (by decide) (by decide))
  rw [← eh5] at zh5
  clear eh5
  refine Tr.nm (fun h8 eh8 => ?_)
  have zh8 := zh5.nw (m := 85) (kd := 20) (len := 60) (sl := 60) rfl rfl
  rw [← eh8] at zh8
  clear eh8
  rw [zh5.1]
  refine Tr.ck (zh8.o (ci := 5) (a := 83) rfl (by decide) (by decide)) ?_
  refine Tr.nm (fun h12 eh12 => ?_)
  have zh12 := (zh8.sP (a := 83) (k := 1) (v := 84 + 1) rfl (by decide) (by decide))
  rw [← eh12] at zh12
  clear eh12
  refine Tr.nm (fun h15 eh15 => ?_)
  have zh15 := zh12.nw (m := 86) (kd := 21) (len := 60) (sl := 60) rfl rfl
  rw [← eh15] at zh15
  clear eh15
  rw [zh12.1]
  refine Tr.ck (zh15.o (ci := 5) (a := 83) rfl (by decide) (by decide)) ?_
  refine Tr.nm (fun h19 eh19 => ?_)
  have zh19 := (zh15.sP (a := 83) (k := 2) (v := 85 + 1) rfl (by decide) (by decide))
  rw [← eh19] at zh19
  clear eh19
  refine Tr.nm (fun h22 eh22 => ?_)
  have zh22 := zh19.nw (m := 87) (kd := 20) (len := 60) (sl := 60) rfl rfl
  rw [← eh22] at zh22
  clear eh22
  rw [zh19.1]
  refine Tr.ck (zh22.o (ci := 5) (a := 83) rfl (by decide) (by decide)) ?_
  exact Tr.ret ((zh22.sP (a := 83) (k := 3) (v := 86 + 1) rfl (by decide) (by decide)).sI (a := 83) (k := 4) (x := 0) (Or.inl rfl) (by decide) (fun q hq => Or.inr (by have := hy q hq; omega)))
theorem ini_X6_88 (z : Zi L xs 88 t D c W Y h) (hy : ∀ q ∈ Y, q + 2 < 88) : Tr (f_X6_init 88 h) (fun _ h1 => Zi L xs 89 (t + 64) ((88, 0) :: D) c W Y h1) := by
  refine Tr.nm (fun h1 eh1 => ?_)
  have zh1 := z.nw (m := 89) (kd := 22) (len := 64) (sl := 64) rfl rfl
  rw [← eh1] at zh1
  clear eh1
  rw [z.1]
  refine Tr.ck (zh1.o (ci := 6) (a := 88) rfl (by decide) (by decide)) ?_
  exact Tr.ret (zh1.sP (a := 88) (k := 0) (v := 88 + 1) rfl (by decide) (by decide))
theorem ini_X0_90 (z : Zi L xs 90 t D c W Y h) (hy : ∀ q ∈ Y, q + 2 < 90) : Tr (f_X0_init 90 h) (fun _ h1 => Zi L xs 97 (t + 64 + 64 + 85 + 85 + 340 + 64 + 85) ((90, 9) :: (90, 8) :: (90, 4) :: (90, 3) :: (90, 2) :: (90, 1) :: (90, 0) :: D) c W Y h1) := by
  refine Tr.nm (fun h1 eh1 => ?_)
  have zh1 := z.nw (m := 91) (kd := 22) (len := 64) (sl := 64) rfl rfl
  rw [← eh1] at zh1
  clear eh1
  rw [z.1]
  refine Tr.ck (zh1.o (ci := 0) (a := 90) rfl (by decide) (by decide)) ?_
  refine Tr.nm (fun h5 eh5 => ?_)
  have zh5 := (zh1.sP (a := 90) (k := 0) (v := 90 + 1) rfl (by decide) (by decide))
  rw [← eh5] at zh5
  clear eh5
  refine Tr.nm (fun h8 eh8 => ?_)
  have zh8 := zh5.nw (m := 92) (kd := 22) (len := 64) (sl := 64) rfl rfl
  rw [← eh8] at zh8
  clear eh8
  rw [zh5.1]
  refine Tr.ck (zh8.o (ci := 0) (a := 90) rfl (by decide) (by decide)) ?_
  refine Tr.nm (fun h12 eh12 => ?_)
  have zh12 := (zh8.sP (a := 90) (k := 1) (v := 91 + 1) rfl (by decide) (by decide))
  rw [← eh12] at zh12
  clear eh12
  refine Tr.nm (fun h15 eh15 => ?_)
  have zh15 := zh12.nw (m := 93) (kd := 20) (len := 85) (sl := 85) rfl rfl
  rw [← eh15] at zh15
  clear eh15
  rw [zh12.1]
  refine Tr.ck (zh15.o (ci := 0) (a := 90) rfl (by decide) (by decide)) ?_
  refine Tr.nm (fun h19 eh19 => ?_)
  have zh19 := (zh15.sP (a := 90) (k := 2) (v := 92 + 1) rfl (by decide) (by decide))
  rw [← eh19] at zh19
  clear eh19
  refine Tr.nm (fun h22 eh22 => ?_)
  have zh22 := zh19.nw (m := 94) (kd := 20) (len := 85) (sl := 85) rfl rfl
  rw [← eh22] at zh22
  clear eh22
  rw [zh19.1]
  refine Tr.ck (zh22.o (ci := 0) (a := 90) rfl (by decide) (by decide)) ?_
  refine Tr.nm (fun h26 eh26 => ?_)
  have zh26 := (zh22.sP (a := 90) (k := 3) (v := 93 + 1) rfl (by decide) (by decide))
  rw [← eh26] at zh26
  clear eh26
  refine Tr.nm (fun h29 eh29 => ?_)
  have zh29 := zh26.nw (m := 95) (kd := 20) (len := 340) (sl := 340) rfl rfl
  rw [← eh29] at zh29
  clear eh29
  rw [zh26.1]
  refine Tr.ck (zh29.o (ci := 0) (a := 90) rfl (by decide) (by decide)) ?_
  refine Tr.nm (fun h33 eh33 => ?_)
  have zh33 := (((zh29.sP (a := 90) (k := 4) (v := 94 + 1) rfl (by decide) (by decide)).sI (a := 90) (k := 5) (x := 0) (Or.inl rfl) (by decide) (fun q hq => Or.inr (by have := hy q hq; omega))).sI (a := 90) (k := 6) (x := 0) (Or.inl rfl) (by decide) (fun q hq => Or.inr (by have := hy q hq; omega)))
  rw [← eh33] at zh33
  clear eh33
  refine Tr.nm (fun h36 eh36 => ?_)
  have zh36 := (zh33.sI (a := 90) (k := 7) (x := 0) (Or.inl rfl) (by decide) (fun q hq => Or.inr (by have := hy q hq; omega)))
  rw [← eh36] at zh36
  clear eh36
  refine Tr.nm (fun h39 eh39 => ?_)
  have zh39 := zh36.nw (m := 96) (kd := 20) (len := 64) (sl := 64) rfl rfl
  rw [← eh39] at zh39
  clear eh39
  rw [zh36.1]
  refine Tr.ck (zh39.o (ci := 0) (a := 90) rfl (by decide) (by decide)) ?_
  refine Tr.nm (fun h43 eh43 => ?_)
  have zh43 := (zh39.sP (a := 90) (k := 8) (v := 95 + 1) rfl (by decide) (by decide))
  rw [← eh43] at zh43
  clear eh43
  refine Tr.nm (fun h46 eh46 => ?_)
  have zh46 := zh43.nw (m := 97) (kd := 20) (len := 85) (sl := 85) rfl rfl
  rw [← eh46] at zh46
  clear eh46
  rw [zh43.1]
  refine Tr.ck (zh46.o (ci := 0) (a := 90) rfl (by decide) (by decide)) ?_
  exact Tr.ret (zh46.sP (a := 90) (k := 9) (v := 96 + 1) rfl (by decide) (by decide))
theorem ini_X8_98 (z : Zi L xs 98 t D c W Y h) (hy : ∀ q ∈ Y, q + 2 < 98) : Tr (f_X8_init 98 h) (fun _ h1 => Zi L xs 100 (t + 64 + 64) ((98, 1) :: (98, 0) :: D) c W Y h1) := by
  refine Tr.nm (fun h1 eh1 => ?_)
  have zh1 := z.nw (m := 99) (kd := 20) (len := 64) (sl := 64) rfl rfl
  rw [← eh1] at zh1
  clear eh1
  rw [z.1]
  refine Tr.ck (zh1.o (ci := 8) (a := 98) rfl (by decide) (by decide)) ?_
  refine Tr.nm (fun h5 eh5 => ?_)
  have zh5 := (zh1.sP (a := 98) (k := 0) (v := 98 + 1) rfl (by decide) (by decide))
  rw [← eh5] at zh5
  clear eh5
  refine Tr.nm (fun h8 eh8 => ?_)
  have zh8 := zh5.nw (m := 100) (kd := 20) (len := 64) (sl := 64) rfl rfl
  rw [← eh8] at zh8
  clear eh8
  rw [zh5.1]
  refine Tr.ck (zh8.o (ci := 8) (a := 98) rfl (by decide) (by decide)) ?_
  exact Tr.ret ((zh8.sP (a := 98) (k := 1) (v := 99 + 1) rfl (by decide) (by decide)).sI (a := 98) (k := 2) (x := 0) (Or.inl rfl) (by decide) (fun q hq => Or.inr (by have := hy q hq; omega)))
theorem ini_X7_79 (z : Zi L xs 79 t D c W Y h) (hy : ∀ q ∈ Y, q + 2 < 79) (hW : ∀ a ∈ W, a < 79) : Tr (f_X7_init 79 h) (fun _ h1 => Zi L xs 100 (t + 4 + 60 + 60 + 5 + 360 + 60 + 60 + 60 + 1 + 64 + 10 + 64 + 64 + 85 + 85 + 340 + 64 + 85 + 3 + 64 + 64) ((79, 4) :: (98, 1) :: (98, 0) :: (79, 3) :: (90, 9) :: (90, 8) :: (90, 4) :: (90, 3) :: (90, 2) :: (90, 1) :: (90, 0) :: (79, 2) :: (88, 0) :: (79, 1) :: (83, 3) :: (83, 2) :: (83, 1) :: (83, 0) :: (79, 0) :: (80, 1) :: (80, 0) :: D) c (80 :: (80 + 1) :: (80 + 2) :: W) (80 :: Y) h1) := by
  refine Tr.nm (fun h1 eh1 => ?_)
  have zh1 := z.nw (m := 80) (kd := 4) (len := 0) (sl := 4) rfl rfl
  rw [← eh1] at zh1
  clear eh1
  rw [z.1]
  refine Tr.bd (ini_X4_80 zh1 (fun q hq => by have := hy q hq; omega)) (fun _ h4 zh4 => ?_)
  refine Tr.ck (zh4.o (ci := 7) (a := 79) rfl (by decide) (by decide)) ?_
  refine Tr.nm (fun h6 eh6 => ?_)
  have zh6 := (zh4.sP (a := 79) (k := 0) (v := 79 + 1) rfl (by decide) (by decide))
  rw [← eh6] at zh6
  clear eh6
  refine Tr.nm (fun h9 eh9 => ?_)
  have zh9 := zh6.nw (m := 83) (kd := 5) (len := 0) (sl := 5) rfl rfl
  rw [← eh9] at zh9
  clear eh9
  rw [zh6.1]
  refine Tr.bd (ini_X5_83 zh9 (fun q hq => by have := hy q hq; omega)) (fun _ h12 zh12 => ?_)
  refine Tr.ck (zh12.o (ci := 7) (a := 79) rfl (by decide) (by decide)) ?_
  refine Tr.nm (fun h14 eh14 => ?_)
  have zh14 := (zh12.sP (a := 79) (k := 1) (v := 82 + 1) rfl (by decide) (by decide))
  rw [← eh14] at zh14
  clear eh14
  refine Tr.nm (fun h17 eh17 => ?_)
  have zh17 := zh14.nw (m := 88) (kd := 6) (len := 0) (sl := 1) rfl rfl
  rw [← eh17] at zh17
  clear eh17
  rw [zh14.1]
  refine Tr.bd (ini_X6_88 zh17 (fun q hq => by have := hy q hq; omega)) (fun _ h20 zh20 => ?_)
  refine Tr.ck (zh20.o (ci := 7) (a := 79) rfl (by decide) (by decide)) ?_
  refine Tr.nm (fun h22 eh22 => ?_)
  have zh22 := (zh20.sP (a := 79) (k := 2) (v := 87 + 1) rfl (by decide) (by decide))
  rw [← eh22] at zh22
  clear eh22
  refine Tr.nm (fun h25 eh25 => ?_)
  have zh25 := zh22.nw (m := 90) (kd := 0) (len := 0) (sl := 10) rfl rfl
  rw [← eh25] at zh25
  clear eh25
  rw [zh22.1]
  refine Tr.bd (ini_X0_90 zh25 (fun q hq => by have := hy q hq; omega)) (fun _ h28 zh28 => ?_)
  refine Tr.ck (zh28.o (ci := 7) (a := 79) rfl (by decide) (by decide)) ?_
  refine Tr.nm (fun h30 eh30 => ?_)
  have zh30 := (zh28.sP (a := 79) (k := 3) (v := 89 + 1) rfl (by decide) (by decide))
  rw [← eh30] at zh30
  clear eh30
  refine Tr.nm (fun h33 eh33 => ?_)
  have zh33 := zh30.nw (m := 98) (kd := 8) (len := 0) (sl := 3) rfl rfl
  rw [← eh33] at zh33
  clear eh33
  rw [zh30.1]
  refine Tr.bd (ini_X8_98 zh33 (fun q hq => by have := hy q hq; omega)) (fun _ h36 zh36 => ?_)
  refine Tr.ck (zh36.o (ci := 7) (a := 79) rfl (by decide) (by decide)) ?_
  have zx := ((zh36.sP (a := 79) (k := 4) (v := 97 + 1) rfl (by decide) (by decide)).sI (a := 79) (k := 5) (x := 0) (Or.inl rfl) (by decide) (fun q hq => Or.inr (by have := hy q hq; omega)))
  generalize (sI (sP h36 79 4 (some (97 + 1))) 79 5 0) = hx at zx ⊢
  refine Tr.gp (x := 80) (zx.p (List.mem_cons_of_mem _ (List.mem_cons_of_mem _ (List.mem_cons_of_mem _ (List.mem_cons_of_mem _ (List.mem_cons_of_mem _ (List.mem_cons_of_mem _ (List.mem_cons_of_mem _ (List.mem_cons_of_mem _ (List.mem_cons_of_mem _ (List.mem_cons_of_mem _ (List.mem_cons_of_mem _ (List.mem_cons_of_mem _ (List.mem_cons_of_mem _ (List.mem_cons_of_mem _ (List.mem_cons_of_mem _ (List.mem_cons_of_mem _ (List.mem_cons_of_mem _ (List.mem_cons_of_mem _ List.mem_cons_self)))))))))))))))))) rfl) ?_
  refine Tr.ck (zx.o (ci := 4) (a := 80) rfl (by decide) (by decide)) ?_
  refine Tr.be (X4_first zx (p := 80) (by decide) (by decide) rfl rfl rfl (zx.p (List.mem_cons_of_mem _ (List.mem_cons_of_mem _ (List.mem_cons_of_mem _ (List.mem_cons_of_mem _ (List.mem_cons_of_mem _ (List.mem_cons_of_mem _ (List.mem_cons_of_mem _ (List.mem_cons_of_mem _ (List.mem_cons_of_mem _ (List.mem_cons_of_mem _ (List.mem_cons_of_mem _ (List.mem_cons_of_mem _ (List.mem_cons_of_mem _ (List.mem_cons_of_mem _ (List.mem_cons_of_mem _ (List.mem_cons_of_mem _ (List.mem_cons_of_mem _ (List.mem_cons_of_mem _ (List.mem_cons_of_mem _ (List.mem_cons_of_mem _ List.mem_cons_self)))))))))))))))))))) rfl) (zx.p (List.mem_cons_of_mem _ (List.mem_cons_of_mem _ (List.mem_cons_of_mem _ (List.mem_cons_of_mem _ (List.mem_cons_of_mem _ (List.mem_cons_of_mem _ (List.mem_cons_of_mem _ (List.mem_cons_of_mem _ (List.mem_cons_of_mem _ (List.mem_cons_of_mem _ (List.mem_cons_of_mem _ (List.mem_cons_of_mem _ (List.mem_cons_of_mem _ (List.mem_cons_of_mem _ (List.mem_cons_of_mem _ (List.mem_cons_of_mem _ (List.mem_cons_of_mem _ (List.mem_cons_of_mem _ (List.mem_cons_of_mem _ List.mem_cons_self))))))))))))))))))) rfl) (fun m => absurd (hW _ m) (by decide)) (fun m => absurd (hW _ m) (by decide)) (fun m => absurd (hW _ m) (by decide))) ?_
  have o7 : isO (sI (sI (sI hx (80 + 1) 0 16) (80 + 2) 0 0) 80 2 1) 79 7 := zx.o rfl (by decide) (by decide)
  have o4 : isO (sI (sI (sI hx (80 + 1) 0 16) (80 + 2) 0 0) 80 2 1) 80 4 := zx.o rfl (by decide) (by decide)
  have g0 : gP (sI (sI (sI hx (80 + 1) 0 16) (80 + 2) 0 0) 80 2 1) 79 0 = some 80 := zx.p (List.mem_cons_of_mem _ (List.mem_cons_of_mem _ (List.mem_cons_of_mem _ (List.mem_cons_of_mem _ (List.mem_cons_of_mem _ (List.mem_cons_of_mem _ (List.mem_cons_of_mem _ (List.mem_cons_of_mem _ (List.mem_cons_of_mem _ (List.mem_cons_of_mem _ (List.mem_cons_of_mem _ (List.mem_cons_of_mem _ (List.mem_cons_of_mem _ (List.mem_cons_of_mem _ (List.mem_cons_of_mem _ (List.mem_cons_of_mem _ (List.mem_cons_of_mem _ (List.mem_cons_of_mem _ List.mem_cons_self)))))))))))))))))) rfl
  refine Tr.ck o7 (Tr.gp g0 (Tr.ck o4 (Tr.be (r := ()) (h1 := sI (sI (sI (sI hx (80 + 1) 0 16) (80 + 2) 0 0) 80 2 1) 80 3 1) (Tr.of_eq (Tr.bz (Or.inr rfl) (Tr.ck o4 (Tr.ret ⟨rfl, rfl⟩)))) ?_)))
  exact Tr.ret (zx.pol (p := 80) (by decide) (by decide) (fun m => absurd (hW _ m) (by decide)) (fun q hq => by have := hy q hq; omega))
theorem ini_X5_105 (z : Zi L xs 105 t D c W Y h) (hy : ∀ q ∈ Y, q + 2 < 105) : Tr (f_X5_init 105 h) (fun _ h1 => Zi L xs 109 (t + 360 + 60 + 60 + 60) ((105, 3) :: (105, 2) :: (105, 1) :: (105, 0) :: D) c W Y h1) := by
  refine Tr.nm (fun h1 eh1 => ?_)
  have zh1 := z.nw (m := 106) (kd := 20) (len := 360) (sl := 360) rfl rfl
  rw [← eh1] at zh1
  clear eh1
  rw [z.1]
  refine Tr.ck (zh1.o (ci := 5) (a := 105) rfl (by decide) (by decide)) ?_
  refine Tr.nm (fun h5 eh5 => ?_)
  have zh5 := (zh1.sP (a := 105) (k := 0) (v := 105 + 1) rfl (by decide) (by decide))
  rw [← eh5] at zh5
  clear eh5
  refine Tr.nm (fun h8 eh8 => ?_)
  have zh8 := zh5.nw (m := 107) (kd := 20) (len := 60) (sl := 60) rfl rfl
  rw [← eh8] at zh8
  clear eh8
  rw [zh5.1]
  refine Tr.ck (zh8.o (ci := 5) (a := 105) rfl (by decide) (by decide)) ?_
  refine Tr.nm (fun h12 eh12 => ?_)
  have zh12 := (zh8.sP (a := 105) (k := 1) (v := 106 + 1) rfl (by decide) (by decide))
  rw [← eh12] at zh12
  clear eh12
  refine Tr.nm (fun h15 eh15 => ?_)
  have zh15 := zh12.nw (m := 108) (kd := 21) (len := 60) (sl := 60) rfl rfl
  rw [← eh15] at zh15
  clear eh15
  rw [zh12.1]
  refine Tr.ck (zh15.o (ci := 5) (a := 105) rfl (by decide) (by decide)) ?_
  refine Tr.nm (fun h19 eh19 => ?_)
  have zh19 := (zh15.sP (a := 105) (k := 2) (v := 107 + 1) rfl (by decide) (by decide))
  rw [← eh19] at zh19
  clear eh19
  refine Tr.nm (fun h22 eh22 => ?_)
  have zh22 := zh19.nw (m := 109) (kd := 20) (len := 60) (sl := 60) rfl rfl
  rw [← eh22] at zh22
  clear eh22
  rw [zh19.1]
  refine Tr.ck (zh22.o (ci := 5) (a := 105) rfl (by decide) (by decide)) ?_
  exact Tr.ret ((zh22.sP (a := 105) (k := 3) (v := 108 + 1) rfl (by decide) (by decide)).sI (a := 105) (k := 4) (x := 0) (Or.inl rfl) (by decide) (fun q hq => Or.inr (by have := hy q hq; omega)))
theorem ini_X6_110 (z : Zi L xs 110 t D c W Y h) (hy : ∀ q ∈ Y, q + 2 < 110) : Tr (f_X6_init 110 h) (fun _ h1 => Zi L xs 111 (t + 64) ((110, 0) :: D) c W Y h1) := by
  refine Tr.nm (fun h1 eh1 => ?_)
  have zh1 := z.nw (m := 111) (kd := 22) (len := 64) (sl := 64) rfl rfl
  rw [← eh1] at zh1
  clear eh1
  rw [z.1]
  refine Tr.ck (zh1.o (ci := 6) (a := 110) rfl (by decide) (by decide)) ?_
  exact Tr.ret (zh1.sP (a := 110) (k := 0) (v := 110 + 1) rfl (by decide) (by decide))
theorem ini_X0_112 (z : Zi L xs 112 t D c W Y h) (hy : ∀ q ∈ Y, q + 2 < 112) : Tr (f_X0_init 112 h) (fun _ h1 => Zi L xs 119 (t + 64 + 64 + 85 + 85 + 340 + 64 + 85) ((112, 9) :: (112, 8) :: (112, 4) :: (112, 3) :: (112, 2) :: (112, 1) :: (112, 0) :: D) c W Y h1) := by
  refine Tr.nm (fun h1 eh1 => ?_)
  have zh1 := z.nw (m := 113) (kd := 22) (len := 64) (sl := 64) rfl rfl
  rw [← eh1] at zh1
  clear eh1
  rw [z.1]
  refine Tr.ck (zh1.o (ci := 0) (a := 112) rfl (by decide) (by decide)) ?_
  refine Tr.nm (fun h5 eh5 => ?_)
  have zh5 := (zh1.sP (a := 112) (k := 0) (v := 112 + 1) rfl (by decide) (by decide))
  rw [← eh5] at zh5
  clear eh5
  refine Tr.nm (fun h8 eh8 => ?_)
  have zh8 := zh5.nw (m := 114) (kd := 22) (len := 64) (sl := 64) rfl rfl
  rw [← eh8] at zh8
  clear eh8
  rw [zh5.1]
  refine Tr.ck (zh8.o (ci := 0) (a := 112) rfl (by decide) (by decide)) ?_
  refine Tr.nm (fun h12 eh12 => ?_)
  have zh12 := (zh8.sP (a := 112) (k := 1) (v := 113 + 1) rfl (by decide) (by decide))
  rw [← eh12] at zh12
  clear eh12
  refine Tr.nm (fun h15 eh15 => ?_)
  have zh15 := zh12.nw (m := 115) (kd := 20) (len := 85) (sl := 85) rfl rfl
  rw [← eh15] at zh15
  clear eh15
  rw [zh12.1]
  refine Tr.ck (zh15.o (ci := 0) (a := 112) rfl (by decide) (by decide)) ?_
  refine Tr.nm (fun h19 eh19 => ?_)
  have zh19 := (zh15.sP (a := 112) (k := 2) (v := 114 + 1) rfl (by decide) (by decide))
  rw [← eh19] at zh19
  clear eh19
  refine Tr.nm (fun h22 eh22 => ?_)
  have zh22 := zh19.nw (m := 116) (kd := 20) (len := 85) (sl := 85) rfl rfl
  rw [← eh22] at zh22
  clear eh22
  rw [zh19.1]
  refine Tr.ck (zh22.o (ci := 0) (a := 112) rfl (by decide) (by decide)) ?_
  refine Tr.nm (fun h26 eh26 => ?_)
  have zh26 := (zh22.sP (a := 112) (k := 3) (v := 115 + 1) rfl (by decide) (by decide))
  rw [← eh26] at zh26
  clear eh26
  refine Tr.nm (fun h29 eh29 => ?_)
  have zh29 := zh26.nw (m := 117) (kd := 20) (len := 340) (sl := 340) rfl rfl
  rw [← eh29] at zh29
  clear eh29
  rw [zh26.1]
  refine Tr.ck (zh29.o (ci := 0) (a := 112) rfl (by decide) (by decide)) ?_
  refine Tr.nm (fun h33 eh33 => ?_)
  have zh33 := (((zh29.sP (a := 112) (k := 4) (v := 116 + 1) rfl (by decide) (by decide)).sI (a := 112) (k := 5) (x := 0) (Or.inl rfl) (by decide) (fun q hq => Or.inr (by have := hy q hq; omega))).sI (a := 112) (k := 6) (x := 0) (Or.inl rfl) (by decide) (fun q hq => Or.inr (by have := hy q hq; omega)))
  rw [← eh33] at zh33
  clear eh33
  refine Tr.nm (fun h36 eh36 => ?_)
  have zh36 := (zh33.sI (a := 112) (k := 7) (x := 0) (Or.inl rfl) (by decide) (fun q hq => Or.inr (by have := hy q hq; omega)))
  rw [← eh36] at zh36
  clear eh36
  refine Tr.nm (fun h39 eh39 => ?_)
  have zh39 := zh36.nw (m := 118) (kd := 20) (len := 64) (sl := 64) rfl rfl
  rw [← eh39] at zh39
  clear eh39
  rw [zh36.1]
  refine Tr.ck (zh39.o (ci := 0) (a := 112) rfl (by decide) (by decide)) ?_
  refine Tr.nm (fun h43 eh43 => ?_)
  have zh43 := (zh39.sP (a := 112) (k := 8) (v := 117 + 1) rfl (by decide) (by decide))
  rw [← eh43] at zh43
  clear eh43
  refine Tr.nm (fun h46 eh46 => ?_)
  have zh46 := zh43.nw (m := 119) (kd := 20) (len := 85) (sl := 85) rfl rfl
  rw [← eh46] at zh46
  clear eh46
  rw [zh43.1]
  refine Tr.ck (zh46.o (ci := 0) (a := 112) rfl (by decide) (by decide)) ?_
  exact Tr.ret (zh46.sP (a := 112) (k := 9) (v := 118 + 1) rfl (by decide) (by decide))
theorem ini_X8_120 (z : Zi L xs 120 t D c W Y h) (hy : ∀ q ∈ Y, q + 2 < 120) : Tr (f_X8_init 120 h) (fun _ h1 => Zi L xs 122 (t + 64 + 64) ((120, 1) :: (120, 0) :: D) c W Y h1) := by
  refine Tr.nm (fun h1 eh1 => ?_)
  have zh1 := z.nw (m := 121) (kd := 20) (len := 64) (sl := 64) rfl rfl
  rw [← eh1] at zh1
  clear eh1
  rw [z.1]
  refine Tr.ck (zh1.o (ci := 8) (a := 120) rfl (by decide) (by decide)) ?_
  refine Tr.nm (fun h5 eh5 => ?_)
  have zh5 := (zh1.sP (a := 120) (k := 0) (v := 120 + 1) rfl (by decide) (by decide))
  rw [← eh5] at zh5
  clear eh5
  refine Tr.nm (fun h8 eh8 => ?_)
  have zh8 := zh5.nw (m := 122) (kd := 20) (len := 64) (sl := 64) rfl rfl
  rw [← eh8] at zh8
  clear eh8
  rw [zh5.1]
  refine Tr.ck (zh8.o (ci := 8) (a := 120) rfl (by decide) (by decide)) ?_
  exact Tr.ret ((zh8.sP (a := 120) (k := 1) (v := 121 + 1) rfl (by decide) (by decide)).sI (a := 120) (k := 2) (x := 0) (Or.inl rfl) (by decide) (fun q hq => Or.inr (by have := hy q hq; omega)))
theorem ini_X7_101 (z : Zi L xs 101 t D c W Y h) (hy : ∀ q ∈ Y, q + 2 < 101) (hW : ∀ a ∈ W, a < 101) : Tr (f_X7_init 101 h) (fun _ h1 => Zi L xs 122 (t + 4 + 60 + 60 + 5 + 360 + 60 + 60 + 60 + 1 + 64 + 10 + 64 + 64 + 85 + 85 + 340 + 64 + 85 + 3 + 64 + 64) ((101, 4) :: (120, 1) :: (120, 0) :: (101, 3) :: (112, 9) :: (112, 8) :: (112, 4) :: (112, 3) :: (112, 2) :: (112, 1) :: (112, 0) :: (101, 2) :: (110, 0) :: (101, 1) :: (105, 3) :: (105, 2) :: (105, 1) :: (105, 0) :: (101, 0) :: (102, 1) :: (102, 0) :: D) c (102 :: (102 + 1) :: (102 + 2) :: W) (102 :: Y) h1) := by
  refine Tr.nm (fun h1 eh1 => ?_)
  have zh1 := z.nw (m := 102) (kd := 4) (len := 0) (sl := 4) rfl rfl
  rw [← eh1] at zh1
  clear eh1
  rw [z.1]
  refine Tr.bd (ini_X4_102 zh1 (fun q hq => by have := hy q hq; omega)) (fun _ h4 zh4 => ?_)
  refine Tr.ck (zh4.o (ci := 7) (a := 101) rfl (by decide) (by decide)) ?_
  refine Tr.nm (fun h6 eh6 => ?_)
  have zh6 := (zh4.sP (a := 101) (k := 0) (v := 101 + 1) rfl (by decide) (by decide))
  rw [← eh6] at zh6
  clear eh6
  refine Tr.nm (fun h9 eh9 => ?_)
  have zh9 := zh6.nw (m := 105) (kd := 5) (len := 0) (sl := 5) rfl rfl
  rw [← eh9] at zh9
  clear eh9
  rw [zh6.1]
  refine Tr.bd (ini_X5_105 zh9 (fun q hq => by have := hy q hq; omega)) (fun _ h12 zh12 => ?_)
  refine Tr.ck (zh12.o (ci := 7) (a := 101) rfl (by decide) (by decide)) ?_
  refine Tr.nm (fun h14 eh14 => ?_)
  have zh14 := (zh12.sP (a := 101) (k := 1) (v := 104 + 1) rfl (by decide) (by decide))
  rw [← eh14] at zh14
  clear eh14
  refine Tr.nm (fun h17 eh17 => ?_)
  have zh17 := zh14.nw (m := 110) (kd := 6) (len := 0) (sl := 1) rfl rfl
  rw [← eh17] at zh17
  clear eh17
  rw [zh14.1]
  refine Tr.bd (ini_X6_110 zh17 (fun q hq => by have := hy q hq; omega)) (fun _ h20 zh20 => ?_)
  refine Tr.ck (zh20.o (ci := 7) (a := 101) rfl (by decide) (by decide)) ?_
  refine Tr.nm (fun h22 eh22 => ?_)
  have zh22 := (zh20.sP (a := 101) (k := 2) (v := 109 + 1) rfl (by decide) (by decide))
  rw [← eh22] at zh22
  clear eh22
  refine Tr.nm (fun h25 eh25 => ?_)
  have zh25 := zh22.nw (m := 112) (kd := 0) (len := 0) (sl := 10) rfl rfl
  rw [← eh25] at zh25
  clear eh25
  rw [zh22.1]
  refine Tr.bd (ini_X0_112 zh25 (fun q hq => by have := hy q hq; omega)) (fun _ h28 zh28 => ?_)
  refine Tr.ck (zh28.o (ci := 7) (a := 101) rfl (by decide) (by decide)) ?_
  refine Tr.nm (fun h30 eh30 => ?_)
  have zh30 := (zh28.sP (a := 101) (k := 3) (v := 111 + 1) rfl (by decide) (by decide))
  rw [← eh30] at zh30
  clear eh30
  refine Tr.nm (fun h33 eh33 => ?_)
  have zh33 := zh30.nw (m := 120) (kd := 8) (len := 0) (sl := 3) rfl rfl
  rw [← eh33] at zh33
  clear eh33
  rw [zh30.1]
  refine Tr.bd (ini_X8_120 zh33 (fun q hq => by have := hy q hq; omega)) (fun _ h36 zh36 => ?_)
  refine Tr.ck (zh36.o (ci := 7) (a := 101) rfl (by decide) (by decide)) ?_
  have zx := ((zh36.sP (a := 101) (k := 4) (v := 119 + 1) rfl (by decide) (by decide)).sI (a := 101) (k := 5) (x := 0) (Or.inl rfl) (by decide) (fun q hq => Or.inr (by have := hy q hq; omega)))
  generalize (sI (sP h36 101 4 (some (119 + 1))) 101 5 0) = hx at zx ⊢
  refine Tr.gp (x := 102) (zx.p (List.mem_cons_of_mem _ (List.mem_cons_of_mem _ (List.mem_cons_of_mem _ (List.mem_cons_of_mem _ (List.mem_cons_of_mem _ (List.mem_cons_of_mem _ (List.mem_cons_of_mem _ (List.mem_cons_of_mem _ (List.mem_cons_of_mem _ (List.mem_cons_of_mem _ (List.mem_cons_of_mem _ (List.mem_cons_of_mem _ (List.mem_cons_of_mem _ (List.mem_cons_of_mem _ (List.mem_cons_of_mem _ (List.mem_cons_of_mem _ (List.mem_cons_of_mem _ (List.mem_cons_of_mem _ List.mem_cons_self)))))))))))))))))) rfl) ?_
  refine Tr.ck (zx.o (ci := 4) (a := 102) rfl (by decide) (by decide)) ?_
  refine Tr.be (X4_first zx (p := 102) (by decide) (by decide) rfl rfl rfl (zx.p (List.mem_cons_of_mem _ (List.mem_cons_of_mem _ (List.mem_cons_of_mem _ (List.mem_cons_of_mem _ (List.mem_cons_of_mem _ (List.mem_cons_of_mem _ (List.mem_cons_of_mem _ (List.mem_cons_of_mem _ (List.mem_cons_of_mem _ (List.mem_cons_of_mem _ (List.mem_cons_of_mem _ (List.mem_cons_of_mem _ (List.mem_cons_of_mem _ (List.mem_cons_of_mem _ (List.mem_cons_of_mem _ (List.mem_cons_of_mem _ (List.mem_cons_of_mem _ (List.mem_cons_of_mem _ (List.mem_cons_of_mem _ (List.mem_cons_of_mem _ List.mem_cons_self)))))))))))))))))))) rfl) (zx.p (List.mem_cons_of_mem _ (List.mem_cons_of_mem _ (List.mem_cons_of_mem _ (List.mem_cons_of_mem _ (List.mem_cons_of_mem _ (List.mem_cons_of_mem _ (List.mem_cons_of_mem _ (List.mem_cons_of_mem _ (List.mem_cons_of_mem _ (List.mem_cons_of_mem _ (List.mem_cons_of_mem _ (List.mem_cons_of_mem _ (List.mem_cons_of_mem _ (List.mem_cons_of_mem _ (List.mem_cons_of_mem _ (List.mem_cons_of_mem _ (List.mem_cons_of_mem _ (List.mem_cons_of_mem _ (List.mem_cons_of_mem _ List.mem_cons_self))))))))))))))))))) rfl) (fun m => absurd (hW _ m) (by decide)) (fun m => absurd (hW _ m) (by decide)) (fun m => absurd (hW _ m) (by decide))) ?_
  have o7 : isO (sI (sI (sI hx (102 + 1) 0 16) (102 + 2) 0 0) 102 2 1) 101 7 := zx.o rfl (by decide) (by decide)
  have o4 : isO (sI (sI (sI hx (102 + 1) 0 16) (102 + 2) 0 0) 102 2 1) 102 4 := zx.o rfl (by decide) (by decide)
  have g0 : gP (sI (sI (sI hx (102 + 1) 0 16) (102 + 2) 0 0) 102 2 1) 101 0 = some 102 := zx.p (List.mem_cons_of_mem _ (List.mem_cons_of_mem _ (List.mem_cons_of_mem _ (List.mem_cons_of_mem _ (List.mem_cons_of_mem _ (List.mem_cons_of_mem _ (List.mem_cons_of_mem _ (List.mem_cons_of_mem _ (List.mem_cons_of_mem _ (List.mem_cons_of_mem _ (List.mem_cons_of_mem _ (List.mem_cons_of_mem _ (List.mem_cons_of_mem _ (List.mem_cons_of_mem _ (List.mem_cons_of_mem _ (List.mem_cons_of_mem _ (List.mem_cons_of_mem _ (List.mem_cons_of_mem _ List.mem_cons_self)))))))))))))))))) rfl
  refine Tr.ck o7 (Tr.gp g0 (Tr.ck o4 (Tr.be (r := ()) (h1 := sI (sI (sI (sI hx (102 + 1) 0 16) (102 + 2) 0 0) 102 2 1) 102 3 1) (Tr.of_eq (Tr.bz (Or.inr rfl) (Tr.ck o4 (Tr.ret ⟨rfl, rfl⟩)))) ?_)))
  exact Tr.ret (zx.pol (p := 102) (by decide) (by decide) (fun m => absurd (hW _ m) (by decide)) (fun q hq => by have := hy q hq; omega))
theorem ini_X2_4 (z : Zi L xs 4 t D 0 W Y h) (hy : ∀ q ∈ Y, q + 2 < 4) : Tr (f_X2_init 4 h) (fun _ h1 => Zi L xs 21 (t + 5 + 5 + 4 + 60 + 60 + 4 + 60 + 60 + 4 + 60 + 60 + 4 + 60 + 60 + 4 + 60 + 60) ((19, 1) :: (19, 0) :: (16, 1) :: (16, 0) :: (13, 1) :: (13, 0) :: (10, 1) :: (10, 0) :: (7, 1) :: (7, 0) :: (4, 1) :: (4, 0) :: D) 5 W Y h1) := by
  refine Tr.nm (fun h1 eh1 => ?_)
  have zh1 := z.nw (m := 5) (kd := 20) (len := 5) (sl := 5) rfl rfl
  rw [← eh1] at zh1
  clear eh1
  rw [z.1]
  refine Tr.ck (zh1.o (ci := 2) (a := 4) rfl (by decide) (by decide)) ?_
  refine Tr.nm (fun h5 eh5 => ?_)
  have zh5 := (zh1.sP (a := 4) (k := 0) (v := 4 + 1) rfl (by decide) (by decide))
  rw [← eh5] at zh5
  clear eh5
  refine Tr.nm (fun h8 eh8 => ?_)
  have zh8 := zh5.nw (m := 6) (kd := 24) (len := 5) (sl := 5) rfl rfl
  rw [← eh8] at zh8
  clear eh8
  rw [zh5.1]
  refine Tr.ck (zh8.o (ci := 2) (a := 4) rfl (by decide) (by decide)) ?_
  have za := ((zh8.sP (a := 4) (k := 1) (v := 5 + 1) rfl (by decide) (by decide)).sI (a := 4) (k := 2) (x := 0) (Or.inl rfl) (by decide) (fun q hq => Or.inr (by have := hy q hq; omega)))
  generalize (sI (sP h8 4 1 (some (5 + 1))) 4 2 0) = ha at za ⊢
  have e0 : (0 : Int32) = nI 0 := rfl
  rw [e0]
  refine Tr.unr (Tr.neg (show ¬ (5 : Int32) ≤ nI 0 by decide) ?_)
  refine Tr.ck (za.o (ci := 2) (a := 4) rfl (by decide) (by decide)) (Tr.gp (x := 6) (za.p List.mem_cons_self rfl) ?_)
  refine Tr.nm (fun hb0 eb => ?_)
  have zb0 := za.nw (m := 7) (kd := 4) (len := 0) (sl := 4) rfl rfl
  rw [← eb] at zb0
  clear eb
  dsimp only
  rw [za.1]
  refine Tr.bd (ini_X4_7 zb0 (fun q hq => by have := hy q hq; omega)) (fun _ hc0 zhc0 => ?_)
  refine Tr.ck (zhc0.o (ci := 4) (a := 7) rfl (by decide) (by decide)) (Tr.ca (zhc0.a (a := 6) (kd := 24) (m := 5) (j := 0) rfl (by decide) (by decide) (by decide) (by decide)) ?_)
  rw [nI_1, nI_clamp (by decide)]
  have zd0 := zhc0.sP6 (v := 6 + 1) (m := 1) rfl (by decide) rfl
  generalize sP hc0 6 0 (some (6 + 1)) = hd0 at zd0 ⊢
  refine Tr.nmx ?_
  refine Tr.unr (Tr.neg (show ¬ (5 : Int32) ≤ nI 1 by decide) ?_)
  refine Tr.ck (zd0.o (ci := 2) (a := 4) rfl (by decide) (by decide)) (Tr.gp (x := 6) (zd0.p (List.mem_cons_of_mem _ (List.mem_cons_of_mem _ List.mem_cons_self)) rfl) ?_)
  refine Tr.nm (fun hb1 eb => ?_)
  have zb1 := zd0.nw (m := 10) (kd := 4) (len := 0) (sl := 4) rfl rfl
  rw [← eb] at zb1
  clear eb
  dsimp only
  rw [zd0.1]
  refine Tr.bd (ini_X4_10 zb1 (fun q hq => by have := hy q hq; omega)) (fun _ hc1 zhc1 => ?_)
  refine Tr.ck (zhc1.o (ci := 4) (a := 10) rfl (by decide) (by decide)) (Tr.ca (zhc1.a (a := 6) (kd := 24) (m := 5) (j := 1) rfl (by decide) (by decide) (by decide) (by decide)) ?_)
  rw [nI_1, nI_clamp (by decide)]
  have zd1 := zhc1.sP6 (v := 9 + 1) (m := 2) rfl (by decide) rfl
  generalize sP hc1 6 1 (some (9 + 1)) = hd1 at zd1 ⊢
  refine Tr.nmx ?_
  refine Tr.unr (Tr.neg (show ¬ (5 : Int32) ≤ nI 2 by decide) ?_)
  refine Tr.ck (zd1.o (ci := 2) (a := 4) rfl (by decide) (by decide)) (Tr.gp (x := 6) (zd1.p (List.mem_cons_of_mem _ (List.mem_cons_of_mem _ (List.mem_cons_of_mem _ (List.mem_cons_of_mem _ List.mem_cons_self)))) rfl) ?_)
  refine Tr.nm (fun hb2 eb => ?_)
  have zb2 := zd1.nw (m := 13) (kd := 4) (len := 0) (sl := 4) rfl rfl
  rw [← eb] at zb2
  clear eb
  dsimp only
  rw [zd1.1]
  refine Tr.bd (ini_X4_13 zb2 (fun q hq => by have := hy q hq; omega)) (fun _ hc2 zhc2 => ?_)
  refine Tr.ck (zhc2.o (ci := 4) (a := 13) rfl (by decide) (by decide)) (Tr.ca (zhc2.a (a := 6) (kd := 24) (m := 5) (j := 2) rfl (by decide) (by decide) (by decide) (by decide)) ?_)
  rw [nI_1, nI_clamp (by decide)]
  have zd2 := zhc2.sP6 (v := 12 + 1) (m := 3) rfl (by decide) rfl
  generalize sP hc2 6 2 (some (12 + 1)) = hd2 at zd2 ⊢
  refine Tr.nmx ?_
  refine Tr.unr (Tr.neg (show ¬ (5 : Int32) ≤ nI 3 by decide) ?_)
  refine Tr.ck (zd2.o (ci := 2) (a := 4) rfl (by decide) (by decide)) (Tr.gp (x := 6) (zd2.p (List.mem_cons_of_mem _ (List.mem_cons_of_mem _ (List.mem_cons_of_mem _ (List.mem_cons_of_mem _ (List.mem_cons_of_mem _ (List.mem_cons_of_mem _ List.mem_cons_self)))))) rfl) ?_)
  refine Tr.nm (fun hb3 eb => ?_)
  have zb3 := zd2.nw (m := 16) (kd := 4) (len := 0) (sl := 4) rfl rfl
  rw [← eb] at zb3
  clear eb
  dsimp only
  rw [zd2.1]
  refine Tr.bd (ini_X4_16 zb3 (fun q hq => by have := hy q hq; omega)) (fun _ hc3 zhc3 => ?_)
  refine Tr.ck (zhc3.o (ci := 4) (a := 16) rfl (by decide) (by decide)) (Tr.ca (zhc3.a (a := 6) (kd := 24) (m := 5) (j := 3) rfl (by decide) (by decide) (by decide) (by decide)) ?_)
  rw [nI_1, nI_clamp (by decide)]
  have zd3 := zhc3.sP6 (v := 15 + 1) (m := 4) rfl (by decide) rfl
  generalize sP hc3 6 3 (some (15 + 1)) = hd3 at zd3 ⊢
  refine Tr.nmx ?_
  refine Tr.unr (Tr.neg (show ¬ (5 : Int32) ≤ nI 4 by decide) ?_)
  refine Tr.ck (zd3.o (ci := 2) (a := 4) rfl (by decide) (by decide)) (Tr.gp (x := 6) (zd3.p (List.mem_cons_of_mem _ (List.mem_cons_of_mem _ (List.mem_cons_of_mem _ (List.mem_cons_of_mem _ (List.mem_cons_of_mem _ (List.mem_cons_of_mem _ (List.mem_cons_of_mem _ (List.mem_cons_of_mem _ List.mem_cons_self)))))))) rfl) ?_)
  refine Tr.nm (fun hb4 eb => ?_)
  have zb4 := zd3.nw (m := 19) (kd := 4) (len := 0) (sl := 4) rfl rfl
  rw [← eb] at zb4
  clear eb
  dsimp only
  rw [zd3.1]
  refine Tr.bd (ini_X4_19 zb4 (fun q hq => by have := hy q hq; omega)) (fun _ hc4 zhc4 => ?_)
  refine Tr.ck (zhc4.o (ci := 4) (a := 19) rfl (by decide) (by decide)) (Tr.ca (zhc4.a (a := 6) (kd := 24) (m := 5) (j := 4) rfl (by decide) (by decide) (by decide) (by decide)) ?_)
  rw [nI_1, nI_clamp (by decide)]
  have zd4 := zhc4.sP6 (v := 18 + 1) (m := 5) rfl (by decide) rfl
  generalize sP hc4 6 4 (some (18 + 1)) = hd4 at zd4 ⊢
  refine Tr.nmx ?_
  exact Tr.unr (Tr.pos (show (5 : Int32) ≤ nI 5 by decide) (Tr.ret zd4))
theorem ini_X9_1 (z : Zi L xs 1 t [] 0 [] [] h) : Tr (f_X9_init 1 h) (fun _ h1 => Zi L xs 122 (t + 150 + 4 + 3 + 5 + 5 + 4 + 60 + 60 + 4 + 60 + 60 + 4 + 60 + 60 + 4 + 60 + 60 + 4 + 60 + 60 + 5 + 10 + 150 + 150 + 150 + 4 + 60 + 60 + 1 + 3840 + 4 + 60 + 60 + 6 + 4 + 60 + 60 + 5 + 360 + 60 + 60 + 60 + 1 + 64 + 10 + 64 + 64 + 85 + 85 + 340 + 64 + 85 + 3 + 64 + 64 + 6 + 4 + 60 + 60 + 5 + 360 + 60 + 60 + 60 + 1 + 64 + 10 + 64 + 64 + 85 + 85 + 340 + 64 + 85 + 3 + 64 + 64 + 6 + 4 + 60 + 60 + 5 + 360 + 60 + 60 + 60 + 1 + 64 + 10 + 64 + 64 + 85 + 85 + 340 + 64 + 85 + 3 + 64 + 64 + 6 + 4 + 60 + 60 + 5 + 360 + 60 + 60 + 60 + 1 + 64 + 10 + 64 + 64 + 85 + 85 + 340 + 64 + 85 + 3 + 64 + 64) [(3, 3), (101, 4), (120, 1), (120, 0), (101, 3), (112, 9), (112, 8), (112, 4), (112, 3), (112, 2), (112, 1), (112, 0), (101, 2), (110, 0), (101, 1), (105, 3), (105, 2), (105, 1), (105, 0), (101, 0), (102, 1), (102, 0), (3, 2), (79, 4), (98, 1), (98, 0), (79, 3), (90, 9), (90, 8), (90, 4), (90, 3), (90, 2), (90, 1), (90, 0), (79, 2), (88, 0), (79, 1), (83, 3), (83, 2), (83, 1), (83, 0), (79, 0), (80, 1), (80, 0), (3, 1), (57, 4), (76, 1), (76, 0), (57, 3), (68, 9), (68, 8), (68, 4), (68, 3), (68, 2), (68, 1), (68, 0), (57, 2), (66, 0), (57, 1), (61, 3), (61, 2), (61, 1), (61, 0), (57, 0), (58, 1), (58, 0), (3, 0), (35, 4), (54, 1), (54, 0), (35, 3), (46, 9), (46, 8), (46, 4), (46, 3), (46, 2), (46, 1), (46, 0), (35, 2), (44, 0), (35, 1), (39, 3), (39, 2), (39, 1), (39, 0), (35, 0), (36, 1), (36, 0), (1, 7), (32, 1), (32, 0), (1, 6), (30, 0), (1, 5), (23, 5), (27, 1), (27, 0), (23, 3), (23, 1), (23, 0), (1, 4), (1, 3), (19, 1), (19, 0), (16, 1), (16, 0), (13, 1), (13, 0), (10, 1), (10, 0), (7, 1), (7, 0), (4, 1), (4, 0), (1, 2), (1, 0)] 5 [102, 102 + 1, 102 + 2, 80, 80 + 1, 80 + 2, 58, 58 + 1, 58 + 2, 36, 36 + 1, 36 + 2, 23] [102, 80, 58, 36] h1) := by
  have hy : ∀ q ∈ ([] : List Nat), q + 2 < 1 := fun q hq => by cases hq
  refine Tr.nm (fun h1 eh1 => ?_)
  have zh1 := z.nw (m := 2) (kd := 20) (len := 150) (sl := 150) rfl rfl
  rw [← eh1] at zh1
  clear eh1
  rw [z.1]
  refine Tr.ck (zh1.o (ci := 9) (a := 1) rfl (by decide) (by decide)) ?_
  refine Tr.nm (fun h5 eh5 => ?_)
  have zh5 := ((zh1.sP (a := 1) (k := 0) (v := 1 + 1) rfl (by decide) (by decide)).sI (a := 1) (k := 1) (x := 0) (Or.inl rfl) (by decide) (fun q hq => Or.inr (by have := hy q hq; omega)))
  rw [← eh5] at zh5
  clear eh5
  refine Tr.nm (fun h8 eh8 => ?_)
  have zh8 := zh5.nw (m := 3) (kd := 23) (len := 4) (sl := 4) rfl rfl
  rw [← eh8] at zh8
  clear eh8
  rw [zh5.1]
  refine Tr.ck (zh8.o (ci := 9) (a := 1) rfl (by decide) (by decide)) ?_
  refine Tr.nm (fun h12 eh12 => ?_)
  have zh12 := (zh8.sP (a := 1) (k := 2) (v := 2 + 1) rfl (by decide) (by decide))
  rw [← eh12] at zh12
  clear eh12
  refine Tr.nm (fun h15 eh15 => ?_)
  have zh15 := zh12.nw (m := 4) (kd := 2) (len := 0) (sl := 3) rfl rfl
  rw [← eh15] at zh15
  clear eh15
  rw [zh12.1]
  refine Tr.bd (ini_X2_4 zh15 (fun q hq => by have := hy q hq; omega)) (fun _ h18 zh18 => ?_)
  refine Tr.ck (zh18.o (ci := 9) (a := 1) rfl (by decide) (by decide)) ?_
  refine Tr.nm (fun h20 eh20 => ?_)
  have zh20 := (zh18.sP (a := 1) (k := 3) (v := 3 + 1) rfl (by decide) (by decide))
  rw [← eh20] at zh20
  clear eh20
  refine Tr.nm (fun h23 eh23 => ?_)
  have zh23 := zh20.nw (m := 22) (kd := 20) (len := 5) (sl := 5) rfl rfl
  rw [← eh23] at zh23
  clear eh23
  rw [zh20.1]
  refine Tr.ck (zh23.o (ci := 9) (a := 1) rfl (by decide) (by decide)) ?_
  refine Tr.nm (fun h27 eh27 => ?_)
  have zh27 := (zh23.sP (a := 1) (k := 4) (v := 21 + 1) rfl (by decide) (by decide))
  rw [← eh27] at zh27
  clear eh27
  refine Tr.nm (fun h30 eh30 => ?_)
  have zh30 := zh27.nw (m := 23) (kd := 3) (len := 0) (sl := 10) rfl rfl
  rw [← eh30] at zh30
  clear eh30
  rw [zh27.1]
  refine Tr.bd (ini_X3_23 zh30 (fun q hq => by have := hy q hq; omega)) (fun _ h33 zh33 => ?_)
  refine Tr.ck (zh33.o (ci := 9) (a := 1) rfl (by decide) (by decide)) ?_
  refine Tr.nm (fun h35 eh35 => ?_)
  have zh35 := (zh33.sP (a := 1) (k := 5) (v := 22 + 1) rfl (by decide) (by decide))
  rw [← eh35] at zh35
  clear eh35
  refine Tr.nm (fun h38 eh38 => ?_)
  have zh38 := zh35.nw (m := 30) (kd := 1) (len := 0) (sl := 1) rfl rfl
  rw [← eh38] at zh38
  clear eh38
  rw [zh35.1]
  refine Tr.bd (ini_X1_30 zh38 (fun q hq => by have := hy q hq; omega)) (fun _ h41 zh41 => ?_)
  refine Tr.ck (zh41.o (ci := 9) (a := 1) rfl (by decide) (by decide)) ?_
  refine Tr.nm (fun h43 eh43 => ?_)
  have zh43 := (zh41.sP (a := 1) (k := 6) (v := 29 + 1) rfl (by decide) (by decide))
  rw [← eh43] at zh43
  clear eh43
  refine Tr.nm (fun h46 eh46 => ?_)
  have zh46 := zh43.nw (m := 32) (kd := 4) (len := 0) (sl := 4) rfl rfl
  rw [← eh46] at zh46
  clear eh46
  rw [zh43.1]
  refine Tr.bd (ini_X4_32 zh46 (fun q hq => by have := hy q hq; omega)) (fun _ h49 zh49 => ?_)
  refine Tr.ck (zh49.o (ci := 9) (a := 1) rfl (by decide) (by decide)) ?_
  have za := (zh49.sP (a := 1) (k := 7) (v := 31 + 1) rfl (by decide) (by decide))
  generalize (sP h49 1 7 (some (31 + 1))) = ha at za ⊢
  have e0 : (0 : Int32) = nI 0 := rfl
  rw [e0]
  refine Tr.unr (Tr.neg (show ¬ (4 : Int32) ≤ nI 0 by decide) ?_)
  refine Tr.ck (za.o (ci := 9) (a := 1) rfl (by decide) (by decide)) (Tr.gp (x := 3) (za.p (List.mem_cons_of_mem _ (List.mem_cons_of_mem _ (List.mem_cons_of_mem _ (List.mem_cons_of_mem _ (List.mem_cons_of_mem _ (List.mem_cons_of_mem _ (List.mem_cons_of_mem _ (List.mem_cons_of_mem _ (List.mem_cons_of_mem _ (List.mem_cons_of_mem _ (List.mem_cons_of_mem _ (List.mem_cons_of_mem _ (List.mem_cons_of_mem _ (List.mem_cons_of_mem _ (List.mem_cons_of_mem _ (List.mem_cons_of_mem _ (List.mem_cons_of_mem _ (List.mem_cons_of_mem _ (List.mem_cons_of_mem _ (List.mem_cons_of_mem _ (List.mem_cons_of_mem _ (List.mem_cons_of_mem _ (List.mem_cons_of_mem _ (List.mem_cons_of_mem _ (List.mem_cons_of_mem _ (List.mem_cons_of_mem _ List.mem_cons_self)))))))))))))))))))))))))) rfl) ?_)
  refine Tr.nm (fun hb0 eb => ?_)
  have zb0 := za.nw (m := 35) (kd := 7) (len := 0) (sl := 6) rfl rfl
  rw [← eb] at zb0
  clear eb
  dsimp only
  rw [za.1]
  refine Tr.bd (ini_X7_35 zb0 (by decide) (by decide)) (fun _ hc0 zc0 => ?_)
  refine Tr.ck (zc0.o (ci := 7) (a := 35) rfl (by decide) (by decide)) (Tr.ca (zc0.a (a := 3) (kd := 23) (m := 4) (j := 0) rfl (by decide) (by decide) (by decide) (by decide)) ?_)
  rw [nI_1, nI_clamp (by decide)]
  have zd0 := zc0.sP (a := 3) (k := 0) (v := 34 + 1) rfl (by decide) (by decide)
  generalize sP hc0 3 0 (some (34 + 1)) = hd0 at zd0 ⊢
  refine Tr.nmx ?_
  refine Tr.unr (Tr.neg (show ¬ (4 : Int32) ≤ nI 1 by decide) ?_)
  refine Tr.ck (zd0.o (ci := 9) (a := 1) rfl (by decide) (by decide)) (Tr.gp (x := 3) (zd0.p (List.mem_cons_of_mem _ (List.mem_cons_of_mem _ (List.mem_cons_of_mem _ (List.mem_cons_of_mem _ (List.mem_cons_of_mem _ (List.mem_cons_of_mem _ (List.mem_cons_of_mem _ (List.mem_cons_of_mem _ (List.mem_cons_of_mem _ (List.mem_cons_of_mem _ (List.mem_cons_of_mem _ (List.mem_cons_of_mem _ (List.mem_cons_of_mem _ (List.mem_cons_of_mem _ (List.mem_cons_of_mem _ (List.mem_cons_of_mem _ (List.mem_cons_of_mem _ (List.mem_cons_of_mem _ (List.mem_cons_of_mem _ (List.mem_cons_of_mem _ (List.mem_cons_of_mem _ (List.mem_cons_of_mem _ (List.mem_cons_of_mem _ (List.mem_cons_of_mem _ (List.mem_cons_of_mem _ (List.mem_cons_of_mem _ (List.mem_cons_of_mem _ (List.mem_cons_of_mem _ (List.mem_cons_of_mem _ (List.mem_cons_of_mem _ (List.mem_cons_of_mem _ (List.mem_cons_of_mem _ (List.mem_cons_of_mem _ (List.mem_cons_of_mem _ (List.mem_cons_of_mem _ (List.mem_cons_of_mem _ (List.mem_cons_of_mem _ (List.mem_cons_of_mem _ (List.mem_cons_of_mem _ (List.mem_cons_of_mem _ (List.mem_cons_of_mem _ (List.mem_cons_of_mem _ (List.mem_cons_of_mem _ (List.mem_cons_of_mem _ (List.mem_cons_of_mem _ (List.mem_cons_of_mem _ (List.mem_cons_of_mem _ (List.mem_cons_of_mem _ List.mem_cons_self)))))))))))))))))))))))))))))))))))))))))))))))) rfl) ?_)
  refine Tr.nm (fun hb1 eb => ?_)
  have zb1 := zd0.nw (m := 57) (kd := 7) (len := 0) (sl := 6) rfl rfl
  rw [← eb] at zb1
  clear eb
  dsimp only
  rw [zd0.1]
  refine Tr.bd (ini_X7_57 zb1 (by decide) (by decide)) (fun _ hc1 zc1 => ?_)
  refine Tr.ck (zc1.o (ci := 7) (a := 57) rfl (by decide) (by decide)) (Tr.ca (zc1.a (a := 3) (kd := 23) (m := 4) (j := 1) rfl (by decide) (by decide) (by decide) (by decide)) ?_)
  rw [nI_1, nI_clamp (by decide)]
  have zd1 := zc1.sP (a := 3) (k := 1) (v := 56 + 1) rfl (by decide) (by decide)
  generalize sP hc1 3 1 (some (56 + 1)) = hd1 at zd1 ⊢
  refine Tr.nmx ?_
  refine Tr.unr (Tr.neg (show ¬ (4 : Int32) ≤ nI 2 by decide) ?_)
  refine Tr.ck (zd1.o (ci := 9) (a := 1) rfl (by decide) (by decide)) (Tr.gp (x := 3) (zd1.p (List.mem_cons_of_mem _ (List.mem_cons_of_mem _ (List.mem_cons_of_mem _ (List.mem_cons_of_mem _ (List.mem_cons_of_mem _ (List.mem_cons_of_mem _ (List.mem_cons_of_mem _ (List.mem_cons_of_mem _ (List.mem_cons_of_mem _ (List.mem_cons_of_mem _ (List.mem_cons_of_mem _ (List.mem_cons_of_mem _ (List.mem_cons_of_mem _ (List.mem_cons_of_mem _ (List.mem_cons_of_mem _ (List.mem_cons_of_mem _ (List.mem_cons_of_mem _ (List.mem_cons_of_mem _ (List.mem_cons_of_mem _ (List.mem_cons_of_mem _ (List.mem_cons_of_mem _ (List.mem_cons_of_mem _ (List.mem_cons_of_mem _ (List.mem_cons_of_mem _ (List.mem_cons_of_mem _ (List.mem_cons_of_mem _ (List.mem_cons_of_mem _ (List.mem_cons_of_mem _ (List.mem_cons_of_mem _ (List.mem_cons_of_mem _ (List.mem_cons_of_mem _ (List.mem_cons_of_mem _ (List.mem_cons_of_mem _ (List.mem_cons_of_mem _ (List.mem_cons_of_mem _ (List.mem_cons_of_mem _ (List.mem_cons_of_mem _ (List.mem_cons_of_mem _ (List.mem_cons_of_mem _ (List.mem_cons_of_mem _ (List.mem_cons_of_mem _ (List.mem_cons_of_mem _ (List.mem_cons_of_mem _ (List.mem_cons_of_mem _ (List.mem_cons_of_mem _ (List.mem_cons_of_mem _ (List.mem_cons_of_mem _ (List.mem_cons_of_mem _ (List.mem_cons_of_mem _ (List.mem_cons_of_mem _ (List.mem_cons_of_mem _ (List.mem_cons_of_mem _ (List.mem_cons_of_mem _ (List.mem_cons_of_mem _ (List.mem_cons_of_mem _ (List.mem_cons_of_mem _ (List.mem_cons_of_mem _ (List.mem_cons_of_mem _ (List.mem_cons_of_mem _ (List.mem_cons_of_mem _ (List.mem_cons_of_mem _ (List.mem_cons_of_mem _ (List.mem_cons_of_mem _ (List.mem_cons_of_mem _ (List.mem_cons_of_mem _ (List.mem_cons_of_mem _ (List.mem_cons_of_mem _ (List.mem_cons_of_mem _ (List.mem_cons_of_mem _ (List.mem_cons_of_mem _ List.mem_cons_self)))))))))))))))))))))))))))))))))))))))))))))))))))))))))))))))))))))) rfl) ?_)
  refine Tr.nm (fun hb2 eb => ?_)
  have zb2 := zd1.nw (m := 79) (kd := 7) (len := 0) (sl := 6) rfl rfl
  rw [← eb] at zb2
  clear eb
  dsimp only
  rw [zd1.1]
  refine Tr.bd (ini_X7_79 zb2 (by decide) (by decide)) (fun _ hc2 zc2 => ?_)
  refine Tr.ck (zc2.o (ci := 7) (a := 79) rfl (by decide) (by decide)) (Tr.ca (zc2.a (a := 3) (kd := 23) (m := 4) (j := 2) rfl (by decide) (by decide) (by decide) (by decide)) ?_)
  rw [nI_1, nI_clamp (by decide)]
  have zd2 := zc2.sP (a := 3) (k := 2) (v := 78 + 1) rfl (by decide) (by decide)
  generalize sP hc2 3 2 (some (78 + 1)) = hd2 at zd2 ⊢
  refine Tr.nmx ?_
  refine Tr.unr (Tr.neg (show ¬ (4 : Int32) ≤ nI 3 by decide) ?_)
  refine Tr.ck (zd2.o (ci := 9) (a := 1) rfl (by decide) (by decide)) (Tr.gp (x := 3) (zd2.p (List.mem_cons_of_mem _ (List.mem_cons_of_mem _ (List.mem_cons_of_mem _ (List.mem_cons_of_mem _ (List.mem_cons_of_mem _ (List.mem_cons_of_mem _ (List.mem_cons_of_mem _ (List.mem_cons_of_mem _ (List.mem_cons_of_mem _ (List.mem_cons_of_mem _ (List.mem_cons_of_mem _ (List.mem_cons_of_mem _ (List.mem_cons_of_mem _ (List.mem_cons_of_mem _ (List.mem_cons_of_mem _ (List.mem_cons_of_mem _ (List.mem_cons_of_mem _ (List.mem_cons_of_mem _ (List.mem_cons_of_mem _ (List.mem_cons_of_mem _ (List.mem_cons_of_mem _ (List.mem_cons_of_mem _ (List.mem_cons_of_mem _ (List.mem_cons_of_mem _ (List.mem_cons_of_mem _ (List.mem_cons_of_mem _ (List.mem_cons_of_mem _ (List.mem_cons_of_mem _ (List.mem_cons_of_mem _ (List.mem_cons_of_mem _ (List.mem_cons_of_mem _ (List.mem_cons_of_mem _ (List.mem_cons_of_mem _ (List.mem_cons_of_mem _ (List.mem_cons_of_mem _ (List.mem_cons_of_mem _ (List.mem_cons_of_mem _ (List.mem_cons_of_mem _ (List.mem_cons_of_mem _ (List.mem_cons_of_mem _ (List.mem_cons_of_mem _ (List.mem_cons_of_mem _ (List.mem_cons_of_mem _ (List.mem_cons_of_mem _ (List.mem_cons_of_mem _ (List.mem_cons_of_mem _ (List.mem_cons_of_mem _ (List.mem_cons_of_mem _ (List.mem_cons_of_mem _ (List.mem_cons_of_mem _ (List.mem_cons_of_mem _ (List.mem_cons_of_mem _ (List.mem_cons_of_mem _ (List.mem_cons_of_mem _ (List.mem_cons_of_mem _ (List.mem_cons_of_mem _ (List.mem_cons_of_mem _ (List.mem_cons_of_mem _ (List.mem_cons_of_mem _ (List.mem_cons_of_mem _ (List.mem_cons_of_mem _ (List.mem_cons_of_mem _ (List.mem_cons_of_mem _ (List.mem_cons_of_mem _ (List.mem_cons_of_mem _ (List.mem_cons_of_mem _ (List.mem_cons_of_mem _ (List.mem_cons_of_mem _ (List.mem_cons_of_mem _ (List.mem_cons_of_mem _ (List.mem_cons_of_mem _ (List.mem_cons_of_mem _ (List.mem_cons_of_mem _ (List.mem_cons_of_mem _ (List.mem_cons_of_mem _ (List.mem_cons_of_mem _ (List.mem_cons_of_mem _ (List.mem_cons_of_mem _ (List.mem_cons_of_mem _ (List.mem_cons_of_mem _ (List.mem_cons_of_mem _ (List.mem_cons_of_mem _ (List.mem_cons_of_mem _ (List.mem_cons_of_mem _ (List.mem_cons_of_mem _ (List.mem_cons_of_mem _ (List.mem_cons_of_mem _ (List.mem_cons_of_mem _ (List.mem_cons_of_mem _ (List.mem_cons_of_mem _ (List.mem_cons_of_mem _ (List.mem_cons_of_mem _ List.mem_cons_self)))))))))))))))))))))))))))))))))))))))))))))))))))))))))))))))))))))))))))))))))))))))))))) rfl) ?_)
  refine Tr.nm (fun hb3 eb => ?_)
  have zb3 := zd2.nw (m := 101) (kd := 7) (len := 0) (sl := 6) rfl rfl
  rw [← eb] at zb3
  clear eb
  dsimp only
  rw [zd2.1]
  refine Tr.bd (ini_X7_101 zb3 (by decide) (by decide)) (fun _ hc3 zc3 => ?_)
  refine Tr.ck (zc3.o (ci := 7) (a := 101) rfl (by decide) (by decide)) (Tr.ca (zc3.a (a := 3) (kd := 23) (m := 4) (j := 3) rfl (by decide) (by decide) (by decide) (by decide)) ?_)
  rw [nI_1, nI_clamp (by decide)]
  have zd3 := zc3.sP (a := 3) (k := 3) (v := 100 + 1) rfl (by decide) (by decide)
  generalize sP hc3 3 3 (some (100 + 1)) = hd3 at zd3 ⊢
  refine Tr.nmx ?_
  exact Tr.unr (Tr.pos (show (4 : Int32) ≤ nI 4 by decide) (Tr.ret zd3))
end INI
def Dfin : List (Nat × Nat) := [(3, 3), (101, 4), (120, 1), (120, 0), (101, 3), (112, 9), (112, 8), (112, 4), (112, 3), (112, 2), (112, 1), (112, 0), (101, 2), (110, 0), (101, 1), (105, 3), (105, 2), (105, 1), (105, 0), (101, 0), (102, 1), (102, 0), (3, 2), (79, 4), (98, 1), (98, 0), (79, 3), (90, 9), (90, 8), (90, 4), (90, 3), (90, 2), (90, 1), (90, 0), (79, 2), (88, 0), (79, 1), (83, 3), (83, 2), (83, 1), (83, 0), (79, 0), (80, 1), (80, 0), (3, 1), (57, 4), (76, 1), (76, 0), (57, 3), (68, 9), (68, 8), (68, 4), (68, 3), (68, 2), (68, 1), (68, 0), (57, 2), (66, 0), (57, 1), (61, 3), (61, 2), (61, 1), (61, 0), (57, 0), (58, 1), (58, 0), (3, 0), (35, 4), (54, 1), (54, 0), (35, 3), (46, 9), (46, 8), (46, 4), (46, 3), (46, 2), (46, 1), (46, 0), (35, 2), (44, 0), (35, 1), (39, 3), (39, 2), (39, 1), (39, 0), (35, 0), (36, 1), (36, 0), (1, 7), (32, 1), (32, 0), (1, 6), (30, 0), (1, 5), (23, 5), (27, 1), (27, 0), (23, 3), (23, 1), (23, 0), (1, 4), (1, 3), (19, 1), (19, 0), (16, 1), (16, 0), (13, 1), (13, 0), (10, 1), (10, 0), (7, 1), (7, 0), (4, 1), (4, 0), (1, 2), (1, 0)]
theorem Dfin_all : (List.range 123).all (fun a => (List.range 12).all (fun k => a == 6 || PP a k == 0 || Dfin.contains (a, k))) = true := by decide +kernel
theorem Dfin_ok : ∀ a, a < 123 → ∀ k, k < 12 → a ≠ 6 → PP a k ≠ 0 → (a, k) ∈ Dfin := by
  intro a ha k hk h6 hp
  have h1 := List.all_eq_true.mp (List.all_eq_true.mp Dfin_all a (List.mem_range.mpr ha)) k (List.mem_range.mpr hk)
  simp only [Bool.or_eq_true, beq_iff_eq, List.contains_iff_mem] at h1
  rcases h1 with (h1 | h1) | h1
  · exact absurd h1 h6
  · exact absurd h1 hp
  · exact h1
