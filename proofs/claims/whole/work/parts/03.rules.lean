theorem ap_iconst {x : ap_X} {g : ap_G} {nL pc q : Nat} {cc : ByteArray} {own : String} {lo : List (Nat × Value)} {st : List Value} {M : ap_Mem} {n : Int} {v : Int32} (hc : ap_Cx x g cc own nL) (hd : decode cc pc = .ok (.iconst n, 1)) (he : pc + 1 = q) (hv : Int32.ofInt n = v) (h : ap_V x g nL q lo (.int v :: st) M) : ap_V x g nL pc lo st M := by
  subst he
  exact fun ls H locs hl hP hS => lv_iconst hc.1 hc.2.1 hd hv (h ls H locs hl hP hS)
theorem ap_bipush {x : ap_X} {g : ap_G} {nL pc q : Nat} {cc : ByteArray} {own : String} {lo : List (Nat × Value)} {st : List Value} {M : ap_Mem} {n : Int} {v : Int32} (hc : ap_Cx x g cc own nL) (hd : decode cc pc = .ok (.bipush n, 2)) (he : pc + 2 = q) (hv : (Int8.ofInt n).toInt32 = v) (h : ap_V x g nL q lo (.int v :: st) M) : ap_V x g nL pc lo st M := by
  subst he
  exact fun ls H locs hl hP hS => lv_bipush hc.1 hc.2.1 hd hv (h ls H locs hl hP hS)
theorem ap_sipush {x : ap_X} {g : ap_G} {nL pc q : Nat} {cc : ByteArray} {own : String} {lo : List (Nat × Value)} {st : List Value} {M : ap_Mem} {n : Int} {v : Int32} (hc : ap_Cx x g cc own nL) (hd : decode cc pc = .ok (.sipush n, 3)) (he : pc + 3 = q) (hv : (Int16.ofInt n).toInt32 = v) (h : ap_V x g nL q lo (.int v :: st) M) : ap_V x g nL pc lo st M := by
  subst he
  exact fun ls H locs hl hP hS => lv_sipush hc.1 hc.2.1 hd hv (h ls H locs hl hP hS)
theorem ap_lconst {x : ap_X} {g : ap_G} {nL pc q : Nat} {cc : ByteArray} {own : String} {lo : List (Nat × Value)} {st : List Value} {M : ap_Mem} {n : Fin 2} {v : Int64} (hc : ap_Cx x g cc own nL) (hd : decode cc pc = .ok (.lconst n, 1)) (he : pc + 1 = q) (hv : Int64.ofNat (n : Nat) = v) (h : ap_V x g nL q lo (.long v :: st) M) : ap_V x g nL pc lo st M := by
  subst he
  exact fun ls H locs hl hP hS => lv_lconst hc.1 hc.2.1 hd hv (h ls H locs hl hP hS)
theorem ap_ldc {x : ap_X} {g : ap_G} {nL pc q : Nat} {cc : ByteArray} {own : String} {lo : List (Nat × Value)} {st : List Value} {M : ap_Mem} {i : Nat} {v : Int32} (hc : ap_Cx x g cc own nL) (hd : decode cc pc = .ok (.ldc i, 2)) (he : pc + 2 = q) (hw : Cond.constant own i v ∈ ap_TW) (h : ap_V x g nL q lo (.int v :: st) M) : ap_V x g nL pc lo st M := by
  subst he
  exact fun ls H locs hl hP hS => lv_ldc hc.1 hc.2.1 hc.2.2.2.1 (hc.2.2.2.2.1 _ hw) hd (h ls H locs hl hP hS)
theorem ap_ldcw {x : ap_X} {g : ap_G} {nL pc q : Nat} {cc : ByteArray} {own : String} {lo : List (Nat × Value)} {st : List Value} {M : ap_Mem} {i : Nat} {v : Int32} (hc : ap_Cx x g cc own nL) (hd : decode cc pc = .ok (.ldc_w i, 3)) (he : pc + 3 = q) (hw : Cond.constant own i v ∈ ap_TW) (h : ap_V x g nL q lo (.int v :: st) M) : ap_V x g nL pc lo st M := by
  subst he
  exact fun ls H locs hl hP hS => lv_ldcw hc.1 hc.2.1 hc.2.2.2.1 (hc.2.2.2.2.1 _ hw) hd (h ls H locs hl hP hS)
theorem ap_ldc2 {x : ap_X} {g : ap_G} {nL pc q : Nat} {cc : ByteArray} {own : String} {lo : List (Nat × Value)} {st : List Value} {M : ap_Mem} {i : Nat} {v : Int64} (hc : ap_Cx x g cc own nL) (hd : decode cc pc = .ok (.ldc2_w i, 3)) (he : pc + 3 = q) (hw : Cond.constantLong own i v ∈ ap_TW) (h : ap_V x g nL q lo (.long v :: st) M) : ap_V x g nL pc lo st M := by
  subst he
  exact fun ls H locs hl hP hS => lv_ldc2 hc.1 hc.2.1 hc.2.2.2.1 (hc.2.2.2.2.1 _ hw) hd (h ls H locs hl hP hS)
theorem ap_iload_n {x : ap_X} {g : ap_G} {nL pc q : Nat} {cc : ByteArray} {own : String} {lo : List (Nat × Value)} {st : List Value} {M : ap_Mem} {k : Fin 4} {i : Nat} {a : Int32} (hc : ap_Cx x g cc own nL) (hd : decode cc pc = .ok (.iload_n k, 1)) (he : pc + 1 = q) (hi : (k : Nat) = i) (j : Nat) (hk : lo[j]? = some (i, .int a)) (h : ap_V x g nL q lo (.int a :: st) M) : ap_V x g nL pc lo st M := by
  subst he
  exact fun ls H locs hl hP hS => lv_iload_n hc.1 hc.2.1 hd hi (lv_at hl j hk) (h ls H locs hl hP hS)
theorem ap_iload {x : ap_X} {g : ap_G} {nL pc q : Nat} {cc : ByteArray} {own : String} {lo : List (Nat × Value)} {st : List Value} {M : ap_Mem} {i : Nat} {a : Int32} (hc : ap_Cx x g cc own nL) (hd : decode cc pc = .ok (.iload i, 2)) (he : pc + 2 = q) (j : Nat) (hk : lo[j]? = some (i, .int a)) (h : ap_V x g nL q lo (.int a :: st) M) : ap_V x g nL pc lo st M := by
  subst he
  exact fun ls H locs hl hP hS => lv_iload hc.1 hc.2.1 hd (lv_at hl j hk) (h ls H locs hl hP hS)
theorem ap_lload_n {x : ap_X} {g : ap_G} {nL pc q : Nat} {cc : ByteArray} {own : String} {lo : List (Nat × Value)} {st : List Value} {M : ap_Mem} {k : Fin 4} {i : Nat} {a : Int64} (hc : ap_Cx x g cc own nL) (hd : decode cc pc = .ok (.lload_n k, 1)) (he : pc + 1 = q) (hi : (k : Nat) = i) (j : Nat) (hk : lo[j]? = some (i, .long a)) (h : ap_V x g nL q lo (.long a :: st) M) : ap_V x g nL pc lo st M := by
  subst he
  exact fun ls H locs hl hP hS => lv_lload_n hc.1 hc.2.1 hd hi (lv_at hl j hk) (h ls H locs hl hP hS)
theorem ap_lload {x : ap_X} {g : ap_G} {nL pc q : Nat} {cc : ByteArray} {own : String} {lo : List (Nat × Value)} {st : List Value} {M : ap_Mem} {i : Nat} {a : Int64} (hc : ap_Cx x g cc own nL) (hd : decode cc pc = .ok (.lload i, 2)) (he : pc + 2 = q) (j : Nat) (hk : lo[j]? = some (i, .long a)) (h : ap_V x g nL q lo (.long a :: st) M) : ap_V x g nL pc lo st M := by
  subst he
  exact fun ls H locs hl hP hS => lv_lload hc.1 hc.2.1 hd (lv_at hl j hk) (h ls H locs hl hP hS)
theorem ap_aload_n {x : ap_X} {g : ap_G} {nL pc q : Nat} {cc : ByteArray} {own : String} {lo : List (Nat × Value)} {st : List Value} {M : ap_Mem} {k : Fin 4} {i : Nat} {a : Nat} (hc : ap_Cx x g cc own nL) (hd : decode cc pc = .ok (.aload_n k, 1)) (he : pc + 1 = q) (hi : (k : Nat) = i) (j : Nat) (hk : lo[j]? = some (i, .ref a)) (h : ap_V x g nL q lo (.ref a :: st) M) : ap_V x g nL pc lo st M := by
  subst he
  exact fun ls H locs hl hP hS => lv_aload_n hc.1 hc.2.1 hd hi (lv_at hl j hk) (h ls H locs hl hP hS)
theorem ap_aload {x : ap_X} {g : ap_G} {nL pc q : Nat} {cc : ByteArray} {own : String} {lo : List (Nat × Value)} {st : List Value} {M : ap_Mem} {i : Nat} {a : Nat} (hc : ap_Cx x g cc own nL) (hd : decode cc pc = .ok (.aload i, 2)) (he : pc + 2 = q) (j : Nat) (hk : lo[j]? = some (i, .ref a)) (h : ap_V x g nL q lo (.ref a :: st) M) : ap_V x g nL pc lo st M := by
  subst he
  exact fun ls H locs hl hP hS => lv_aload hc.1 hc.2.1 hd (lv_at hl j hk) (h ls H locs hl hP hS)
theorem ap_istore_n {x : ap_X} {g : ap_G} {nL pc q : Nat} {cc : ByteArray} {own : String} {lo : List (Nat × Value)} {st : List Value} {M : ap_Mem} {k : Fin 4} {i : Nat} {a b : Int32} {lo2 : List (Nat × Value)} (hc : ap_Cx x g cc own nL) (hd : decode cc pc = .ok (.istore_n k, 1)) (he : pc + 1 = q) (hi : (k : Nat) = i) (hv : b = a) (hlt : i < nL) (hf : (i, Value.int b) :: lo.filter (fun q => !(q.1 == i) && !(q.1 + 1 == i && q.2.category == 2)) = lo2) (h : ap_V x g nL q lo2 st M) : ap_V x g nL pc lo (.int a :: st) M := by
  subst he; subst hv
  exact fun ls H locs hl hP hS => lv_istore_n hc.1 hc.2.1 hd hi hl hlt hf (fun ls2 hl2 => h ls2 H locs hl2 hP hS)
theorem ap_istore {x : ap_X} {g : ap_G} {nL pc q : Nat} {cc : ByteArray} {own : String} {lo : List (Nat × Value)} {st : List Value} {M : ap_Mem} {i : Nat} {a b : Int32} {lo2 : List (Nat × Value)} (hc : ap_Cx x g cc own nL) (hd : decode cc pc = .ok (.istore i, 2)) (he : pc + 2 = q) (hv : b = a) (hlt : i < nL) (hf : (i, Value.int b) :: lo.filter (fun q => !(q.1 == i) && !(q.1 + 1 == i && q.2.category == 2)) = lo2) (h : ap_V x g nL q lo2 st M) : ap_V x g nL pc lo (.int a :: st) M := by
  subst he; subst hv
  exact fun ls H locs hl hP hS => lv_istore hc.1 hc.2.1 hd hl hlt hf (fun ls2 hl2 => h ls2 H locs hl2 hP hS)
theorem ap_lstore_n {x : ap_X} {g : ap_G} {nL pc q : Nat} {cc : ByteArray} {own : String} {lo : List (Nat × Value)} {st : List Value} {M : ap_Mem} {k : Fin 4} {i : Nat} {a b : Int64} {lo2 : List (Nat × Value)} (hc : ap_Cx x g cc own nL) (hd : decode cc pc = .ok (.lstore_n k, 1)) (he : pc + 1 = q) (hi : (k : Nat) = i) (hv : b = a) (hlt : i + 1 < nL) (hf : (i, Value.long b) :: lo.filter (fun q => !(q.1 == i) && (!(q.1 == i + 1) && !(q.1 + 1 == i && q.2.category == 2))) = lo2) (h : ap_V x g nL q lo2 st M) : ap_V x g nL pc lo (.long a :: st) M := by
  subst he; subst hv
  exact fun ls H locs hl hP hS => lv_lstore_n hc.1 hc.2.1 hd hi hl hlt hf (fun ls2 hl2 => h ls2 H locs hl2 hP hS)
theorem ap_lstore {x : ap_X} {g : ap_G} {nL pc q : Nat} {cc : ByteArray} {own : String} {lo : List (Nat × Value)} {st : List Value} {M : ap_Mem} {i : Nat} {a b : Int64} {lo2 : List (Nat × Value)} (hc : ap_Cx x g cc own nL) (hd : decode cc pc = .ok (.lstore i, 2)) (he : pc + 2 = q) (hv : b = a) (hlt : i + 1 < nL) (hf : (i, Value.long b) :: lo.filter (fun q => !(q.1 == i) && (!(q.1 == i + 1) && !(q.1 + 1 == i && q.2.category == 2))) = lo2) (h : ap_V x g nL q lo2 st M) : ap_V x g nL pc lo (.long a :: st) M := by
  subst he; subst hv
  exact fun ls H locs hl hP hS => lv_lstore hc.1 hc.2.1 hd hl hlt hf (fun ls2 hl2 => h ls2 H locs hl2 hP hS)
theorem ap_astore_n {x : ap_X} {g : ap_G} {nL pc q : Nat} {cc : ByteArray} {own : String} {lo : List (Nat × Value)} {st : List Value} {M : ap_Mem} {k : Fin 4} {i : Nat} {a b : Nat} {lo2 : List (Nat × Value)} (hc : ap_Cx x g cc own nL) (hd : decode cc pc = .ok (.astore_n k, 1)) (he : pc + 1 = q) (hi : (k : Nat) = i) (hv : b = a) (hlt : i < nL) (hf : (i, Value.ref b) :: lo.filter (fun q => !(q.1 == i) && !(q.1 + 1 == i && q.2.category == 2)) = lo2) (h : ap_V x g nL q lo2 st M) : ap_V x g nL pc lo (.ref a :: st) M := by
  subst he; subst hv
  exact fun ls H locs hl hP hS => lv_astore_n hc.1 hc.2.1 hd hi hl hlt hf (fun ls2 hl2 => h ls2 H locs hl2 hP hS)
theorem ap_astore {x : ap_X} {g : ap_G} {nL pc q : Nat} {cc : ByteArray} {own : String} {lo : List (Nat × Value)} {st : List Value} {M : ap_Mem} {i : Nat} {a b : Nat} {lo2 : List (Nat × Value)} (hc : ap_Cx x g cc own nL) (hd : decode cc pc = .ok (.astore i, 2)) (he : pc + 2 = q) (hv : b = a) (hlt : i < nL) (hf : (i, Value.ref b) :: lo.filter (fun q => !(q.1 == i) && !(q.1 + 1 == i && q.2.category == 2)) = lo2) (h : ap_V x g nL q lo2 st M) : ap_V x g nL pc lo (.ref a :: st) M := by
  subst he; subst hv
  exact fun ls H locs hl hP hS => lv_astore hc.1 hc.2.1 hd hl hlt hf (fun ls2 hl2 => h ls2 H locs hl2 hP hS)
theorem ap_iinc {x : ap_X} {g : ap_G} {nL pc q : Nat} {cc : ByteArray} {own : String} {lo : List (Nat × Value)} {st : List Value} {M : ap_Mem} {i : Nat} {n : Int} {a b : Int32} {lo2 : List (Nat × Value)} (hc : ap_Cx x g cc own nL) (hd : decode cc pc = .ok (.iinc i n, 3)) (he : pc + 3 = q) (j : Nat) (hk : lo[j]? = some (i, .int a)) (hv : a + Int32.ofInt n = b) (hlt : i < nL) (hf : (i, Value.int b) :: lo.filter (fun q => !(q.1 == i) && !(q.1 + 1 == i && q.2.category == 2)) = lo2) (h : ap_V x g nL q lo2 st M) : ap_V x g nL pc lo st M := by
  subst he
  exact fun ls H locs hl hP hS => lv_iinc hc.1 hc.2.1 hd hl hk hv hlt hf (fun ls2 hl2 => h ls2 H locs hl2 hP hS)
theorem ap_iadd {x : ap_X} {g : ap_G} {nL pc q : Nat} {cc : ByteArray} {own : String} {lo : List (Nat × Value)} {st : List Value} {M : ap_Mem} {a b : Int32} (hc : ap_Cx x g cc own nL) (hd : decode cc pc = .ok (.iadd, 1)) (he : pc + 1 = q) (h : ap_V x g nL q lo (.int (a + b) :: st) M) : ap_V x g nL pc lo (.int b :: .int a :: st) M := by
  subst he
  exact fun ls H locs hl hP hS => lv_iadd hc.1 hc.2.1 hd (h ls H locs hl hP hS)
theorem ap_isub {x : ap_X} {g : ap_G} {nL pc q : Nat} {cc : ByteArray} {own : String} {lo : List (Nat × Value)} {st : List Value} {M : ap_Mem} {a b : Int32} (hc : ap_Cx x g cc own nL) (hd : decode cc pc = .ok (.isub, 1)) (he : pc + 1 = q) (h : ap_V x g nL q lo (.int (a - b) :: st) M) : ap_V x g nL pc lo (.int b :: .int a :: st) M := by
  subst he
  exact fun ls H locs hl hP hS => lv_isub hc.1 hc.2.1 hd (h ls H locs hl hP hS)
theorem ap_imul {x : ap_X} {g : ap_G} {nL pc q : Nat} {cc : ByteArray} {own : String} {lo : List (Nat × Value)} {st : List Value} {M : ap_Mem} {a b : Int32} (hc : ap_Cx x g cc own nL) (hd : decode cc pc = .ok (.imul, 1)) (he : pc + 1 = q) (h : ap_V x g nL q lo (.int (a * b) :: st) M) : ap_V x g nL pc lo (.int b :: .int a :: st) M := by
  subst he
  exact fun ls H locs hl hP hS => lv_imul hc.1 hc.2.1 hd (h ls H locs hl hP hS)
theorem ap_iand {x : ap_X} {g : ap_G} {nL pc q : Nat} {cc : ByteArray} {own : String} {lo : List (Nat × Value)} {st : List Value} {M : ap_Mem} {a b : Int32} (hc : ap_Cx x g cc own nL) (hd : decode cc pc = .ok (.iand, 1)) (he : pc + 1 = q) (h : ap_V x g nL q lo (.int (a &&& b) :: st) M) : ap_V x g nL pc lo (.int b :: .int a :: st) M := by
  subst he
  exact fun ls H locs hl hP hS => lv_iand hc.1 hc.2.1 hd (h ls H locs hl hP hS)
theorem ap_ior {x : ap_X} {g : ap_G} {nL pc q : Nat} {cc : ByteArray} {own : String} {lo : List (Nat × Value)} {st : List Value} {M : ap_Mem} {a b : Int32} (hc : ap_Cx x g cc own nL) (hd : decode cc pc = .ok (.ior, 1)) (he : pc + 1 = q) (h : ap_V x g nL q lo (.int (a ||| b) :: st) M) : ap_V x g nL pc lo (.int b :: .int a :: st) M := by
  subst he
  exact fun ls H locs hl hP hS => lv_ior hc.1 hc.2.1 hd (h ls H locs hl hP hS)
theorem ap_ixor {x : ap_X} {g : ap_G} {nL pc q : Nat} {cc : ByteArray} {own : String} {lo : List (Nat × Value)} {st : List Value} {M : ap_Mem} {a b : Int32} (hc : ap_Cx x g cc own nL) (hd : decode cc pc = .ok (.ixor, 1)) (he : pc + 1 = q) (h : ap_V x g nL q lo (.int (a ^^^ b) :: st) M) : ap_V x g nL pc lo (.int b :: .int a :: st) M := by
  subst he
  exact fun ls H locs hl hP hS => lv_ixor hc.1 hc.2.1 hd (h ls H locs hl hP hS)
theorem ap_ishl {x : ap_X} {g : ap_G} {nL pc q : Nat} {cc : ByteArray} {own : String} {lo : List (Nat × Value)} {st : List Value} {M : ap_Mem} {a b : Int32} (hc : ap_Cx x g cc own nL) (hd : decode cc pc = .ok (.ishl, 1)) (he : pc + 1 = q) (h : ap_V x g nL q lo (.int (a <<< (b &&& 31)) :: st) M) : ap_V x g nL pc lo (.int b :: .int a :: st) M := by
  subst he
  exact fun ls H locs hl hP hS => lv_ishl hc.1 hc.2.1 hd (h ls H locs hl hP hS)
theorem ap_ishr {x : ap_X} {g : ap_G} {nL pc q : Nat} {cc : ByteArray} {own : String} {lo : List (Nat × Value)} {st : List Value} {M : ap_Mem} {a b : Int32} (hc : ap_Cx x g cc own nL) (hd : decode cc pc = .ok (.ishr, 1)) (he : pc + 1 = q) (h : ap_V x g nL q lo (.int (a >>> (b &&& 31)) :: st) M) : ap_V x g nL pc lo (.int b :: .int a :: st) M := by
  subst he
  exact fun ls H locs hl hP hS => lv_ishr hc.1 hc.2.1 hd (h ls H locs hl hP hS)
theorem ap_iushr {x : ap_X} {g : ap_G} {nL pc q : Nat} {cc : ByteArray} {own : String} {lo : List (Nat × Value)} {st : List Value} {M : ap_Mem} {a b v : Int32} (hc : ap_Cx x g cc own nL) (hd : decode cc pc = .ok (.iushr, 1)) (he : pc + 1 = q) (hv : (a.toUInt32 >>> (b.toUInt32 &&& Int32.toUInt32 31)).toInt32 = v) (h : ap_V x g nL q lo (.int v :: st) M) : ap_V x g nL pc lo (.int b :: .int a :: st) M := by
  subst he
  exact fun ls H locs hl hP hS => lv_iushr hc.1 hc.2.1 hd hv (h ls H locs hl hP hS)
theorem ap_idiv {x : ap_X} {g : ap_G} {nL pc q : Nat} {cc : ByteArray} {own : String} {lo : List (Nat × Value)} {st : List Value} {M : ap_Mem} {a b : Int32} (hc : ap_Cx x g cc own nL) (hd : decode cc pc = .ok (.idiv, 1)) (he : pc + 1 = q) (hn : ¬ b = 0) (h : ap_V x g nL q lo (.int (a / b) :: st) M) : ap_V x g nL pc lo (.int b :: .int a :: st) M := by
  subst he
  exact fun ls H locs hl hP hS => lv_idiv hc.1 hc.2.1 hd hn (h ls H locs hl hP hS)
theorem ap_irem {x : ap_X} {g : ap_G} {nL pc q : Nat} {cc : ByteArray} {own : String} {lo : List (Nat × Value)} {st : List Value} {M : ap_Mem} {a b : Int32} (hc : ap_Cx x g cc own nL) (hd : decode cc pc = .ok (.irem, 1)) (he : pc + 1 = q) (hn : ¬ b = 0) (h : ap_V x g nL q lo (.int (a - a / b * b) :: st) M) : ap_V x g nL pc lo (.int b :: .int a :: st) M := by
  subst he
  exact fun ls H locs hl hP hS => lv_irem hc.1 hc.2.1 hd hn (h ls H locs hl hP hS)
theorem ap_ineg {x : ap_X} {g : ap_G} {nL pc q : Nat} {cc : ByteArray} {own : String} {lo : List (Nat × Value)} {st : List Value} {M : ap_Mem} {a : Int32} (hc : ap_Cx x g cc own nL) (hd : decode cc pc = .ok (.ineg, 1)) (he : pc + 1 = q) (h : ap_V x g nL q lo (.int (-a) :: st) M) : ap_V x g nL pc lo (.int a :: st) M := by
  subst he
  exact fun ls H locs hl hP hS => lv_ineg hc.1 hc.2.1 hd (h ls H locs hl hP hS)
theorem ap_ladd {x : ap_X} {g : ap_G} {nL pc q : Nat} {cc : ByteArray} {own : String} {lo : List (Nat × Value)} {st : List Value} {M : ap_Mem} {a b : Int64} (hc : ap_Cx x g cc own nL) (hd : decode cc pc = .ok (.ladd, 1)) (he : pc + 1 = q) (h : ap_V x g nL q lo (.long (a + b) :: st) M) : ap_V x g nL pc lo (.long b :: .long a :: st) M := by
  subst he
  exact fun ls H locs hl hP hS => lv_ladd hc.1 hc.2.1 hd (h ls H locs hl hP hS)
theorem ap_lneg {x : ap_X} {g : ap_G} {nL pc q : Nat} {cc : ByteArray} {own : String} {lo : List (Nat × Value)} {st : List Value} {M : ap_Mem} {a : Int64} (hc : ap_Cx x g cc own nL) (hd : decode cc pc = .ok (.lneg, 1)) (he : pc + 1 = q) (h : ap_V x g nL q lo (.long (-a) :: st) M) : ap_V x g nL pc lo (.long a :: st) M := by
  subst he
  exact fun ls H locs hl hP hS => lv_lneg hc.1 hc.2.1 hd (h ls H locs hl hP hS)
theorem ap_ldiv {x : ap_X} {g : ap_G} {nL pc q : Nat} {cc : ByteArray} {own : String} {lo : List (Nat × Value)} {st : List Value} {M : ap_Mem} {a b : Int64} (hc : ap_Cx x g cc own nL) (hd : decode cc pc = .ok (.ldiv, 1)) (he : pc + 1 = q) (hn : ¬ b = 0) (h : ap_V x g nL q lo (.long (a / b) :: st) M) : ap_V x g nL pc lo (.long b :: .long a :: st) M := by
  subst he
  exact fun ls H locs hl hP hS => lv_ldiv hc.1 hc.2.1 hd hn (h ls H locs hl hP hS)
theorem ap_lrem {x : ap_X} {g : ap_G} {nL pc q : Nat} {cc : ByteArray} {own : String} {lo : List (Nat × Value)} {st : List Value} {M : ap_Mem} {a b : Int64} (hc : ap_Cx x g cc own nL) (hd : decode cc pc = .ok (.lrem, 1)) (he : pc + 1 = q) (hn : ¬ b = 0) (h : ap_V x g nL q lo (.long (a - a / b * b) :: st) M) : ap_V x g nL pc lo (.long b :: .long a :: st) M := by
  subst he
  exact fun ls H locs hl hP hS => lv_lrem hc.1 hc.2.1 hd hn (h ls H locs hl hP hS)
theorem ap_lcmp {x : ap_X} {g : ap_G} {nL pc q : Nat} {cc : ByteArray} {own : String} {lo : List (Nat × Value)} {st : List Value} {M : ap_Mem} {a b : Int64} (hc : ap_Cx x g cc own nL) (hd : decode cc pc = .ok (.lcmp, 1)) (he : pc + 1 = q) (h : ap_V x g nL q lo (.int (lg_cmp a b) :: st) M) : ap_V x g nL pc lo (.long b :: .long a :: st) M := by
  subst he
  exact fun ls H locs hl hP hS => W.lcmp hc.1 hc.2.1 hd (h ls H locs hl hP hS)
theorem ap_i2l {x : ap_X} {g : ap_G} {nL pc q : Nat} {cc : ByteArray} {own : String} {lo : List (Nat × Value)} {st : List Value} {M : ap_Mem} {a : Int32} (hc : ap_Cx x g cc own nL) (hd : decode cc pc = .ok (.i2l, 1)) (he : pc + 1 = q) (h : ap_V x g nL q lo (.long a.toInt64 :: st) M) : ap_V x g nL pc lo (.int a :: st) M := by
  subst he
  exact fun ls H locs hl hP hS => lv_i2l hc.1 hc.2.1 hd rfl (h ls H locs hl hP hS)
theorem ap_i2c {x : ap_X} {g : ap_G} {nL pc q : Nat} {cc : ByteArray} {own : String} {lo : List (Nat × Value)} {st : List Value} {M : ap_Mem} {a : Int32} (hc : ap_Cx x g cc own nL) (hd : decode cc pc = .ok (.i2c, 1)) (he : pc + 1 = q) (h : ap_V x g nL q lo (.int (a.toUInt32 % 65536).toInt32 :: st) M) : ap_V x g nL pc lo (.int a :: st) M := by
  subst he
  exact fun ls H locs hl hP hS => lv_i2c hc.1 hc.2.1 hd rfl (h ls H locs hl hP hS)
theorem ap_i2b {x : ap_X} {g : ap_G} {nL pc q : Nat} {cc : ByteArray} {own : String} {lo : List (Nat × Value)} {st : List Value} {M : ap_Mem} {a : Int32} (hc : ap_Cx x g cc own nL) (hd : decode cc pc = .ok (.i2b, 1)) (he : pc + 1 = q) (h : ap_V x g nL q lo (.int a.toInt8.toInt32 :: st) M) : ap_V x g nL pc lo (.int a :: st) M := by
  subst he
  exact fun ls H locs hl hP hS => lv_i2b hc.1 hc.2.1 hd rfl (h ls H locs hl hP hS)
theorem ap_dup {x : ap_X} {g : ap_G} {nL pc q : Nat} {cc : ByteArray} {own : String} {lo : List (Nat × Value)} {st : List Value} {M : ap_Mem} {v : Value} (hc : ap_Cx x g cc own nL) (hd : decode cc pc = .ok (.dup, 1)) (he : pc + 1 = q) (hv : v.category = 1) (h : ap_V x g nL q lo (v :: v :: st) M) : ap_V x g nL pc lo (v :: st) M := by
  subst he
  exact fun ls H locs hl hP hS => lv_dup hc.1 hc.2.1 hd hv (h ls H locs hl hP hS)
theorem ap_pop {x : ap_X} {g : ap_G} {nL pc q : Nat} {cc : ByteArray} {own : String} {lo : List (Nat × Value)} {st : List Value} {M : ap_Mem} {v : Value} (hc : ap_Cx x g cc own nL) (hd : decode cc pc = .ok (.pop, 1)) (he : pc + 1 = q) (hv : v.category = 1) (h : ap_V x g nL q lo st M) : ap_V x g nL pc lo (v :: st) M := by
  subst he
  exact fun ls H locs hl hP hS => lv_pop hc.1 hc.2.1 hd hv (h ls H locs hl hP hS)
theorem ap_dup2 {x : ap_X} {g : ap_G} {nL pc q : Nat} {cc : ByteArray} {own : String} {lo : List (Nat × Value)} {st : List Value} {M : ap_Mem} {v w : Value} (hc : ap_Cx x g cc own nL) (hd : decode cc pc = .ok (.dup2, 1)) (he : pc + 1 = q) (hv : v.category = 1) (hw : w.category = 1) (h : ap_V x g nL q lo (v :: w :: v :: w :: st) M) : ap_V x g nL pc lo (v :: w :: st) M := by
  subst he
  exact fun ls H locs hl hP hS => lv_dup2_11 hc.1 hc.2.1 hd hv hw (h ls H locs hl hP hS)
theorem ap_if_eq {x : ap_X} {g : ap_G} {nL pc q : Nat} {cc : ByteArray} {own : String} {lo : List (Nat × Value)} {st : List Value} {M : ap_Mem} {a : Int32} {off : Int} {tgt : Nat} (hc : ap_Cx x g cc own nL) (hd : decode cc pc = .ok (.ifCond .eq off, 3)) (he : pc + 3 = q) (ht : (pc : Int) + off = (tgt : Int)) (kt : a = 0 → ap_V x g nL tgt lo st M) (kf : ¬ a = 0 → ap_V x g nL q lo st M) : ap_V x g nL pc lo (.int a :: st) M := by
  subst he
  exact fun ls H locs hl hP hS => lv_if_eq hc.1 hc.2.1 hd ht (fun z => kt z ls H locs hl hP hS) (fun z => kf z ls H locs hl hP hS)
theorem ap_icmp_eq {x : ap_X} {g : ap_G} {nL pc q : Nat} {cc : ByteArray} {own : String} {lo : List (Nat × Value)} {st : List Value} {M : ap_Mem} {a b : Int32} {off : Int} {tgt : Nat} (hc : ap_Cx x g cc own nL) (hd : decode cc pc = .ok (.if_icmp .eq off, 3)) (he : pc + 3 = q) (ht : (pc : Int) + off = (tgt : Int)) (kt : a = b → ap_V x g nL tgt lo st M) (kf : ¬ a = b → ap_V x g nL q lo st M) : ap_V x g nL pc lo (.int b :: .int a :: st) M := by
  subst he
  exact fun ls H locs hl hP hS => lv_icmp_eq hc.1 hc.2.1 hd ht (fun z => kt z ls H locs hl hP hS) (fun z => kf z ls H locs hl hP hS)
theorem ap_if_ne {x : ap_X} {g : ap_G} {nL pc q : Nat} {cc : ByteArray} {own : String} {lo : List (Nat × Value)} {st : List Value} {M : ap_Mem} {a : Int32} {off : Int} {tgt : Nat} (hc : ap_Cx x g cc own nL) (hd : decode cc pc = .ok (.ifCond .ne off, 3)) (he : pc + 3 = q) (ht : (pc : Int) + off = (tgt : Int)) (kt : ¬ a = 0 → ap_V x g nL tgt lo st M) (kf : a = 0 → ap_V x g nL q lo st M) : ap_V x g nL pc lo (.int a :: st) M := by
  subst he
  exact fun ls H locs hl hP hS => lv_if_ne hc.1 hc.2.1 hd ht (fun z => kt z ls H locs hl hP hS) (fun z => kf z ls H locs hl hP hS)
theorem ap_icmp_ne {x : ap_X} {g : ap_G} {nL pc q : Nat} {cc : ByteArray} {own : String} {lo : List (Nat × Value)} {st : List Value} {M : ap_Mem} {a b : Int32} {off : Int} {tgt : Nat} (hc : ap_Cx x g cc own nL) (hd : decode cc pc = .ok (.if_icmp .ne off, 3)) (he : pc + 3 = q) (ht : (pc : Int) + off = (tgt : Int)) (kt : ¬ a = b → ap_V x g nL tgt lo st M) (kf : a = b → ap_V x g nL q lo st M) : ap_V x g nL pc lo (.int b :: .int a :: st) M := by
  subst he
  exact fun ls H locs hl hP hS => lv_icmp_ne hc.1 hc.2.1 hd ht (fun z => kt z ls H locs hl hP hS) (fun z => kf z ls H locs hl hP hS)
theorem ap_if_lt {x : ap_X} {g : ap_G} {nL pc q : Nat} {cc : ByteArray} {own : String} {lo : List (Nat × Value)} {st : List Value} {M : ap_Mem} {a : Int32} {off : Int} {tgt : Nat} (hc : ap_Cx x g cc own nL) (hd : decode cc pc = .ok (.ifCond .lt off, 3)) (he : pc + 3 = q) (ht : (pc : Int) + off = (tgt : Int)) (kt : a < 0 → ap_V x g nL tgt lo st M) (kf : ¬ a < 0 → ap_V x g nL q lo st M) : ap_V x g nL pc lo (.int a :: st) M := by
  subst he
  exact fun ls H locs hl hP hS => lv_if_lt hc.1 hc.2.1 hd ht (fun z => kt z ls H locs hl hP hS) (fun z => kf z ls H locs hl hP hS)
theorem ap_icmp_lt {x : ap_X} {g : ap_G} {nL pc q : Nat} {cc : ByteArray} {own : String} {lo : List (Nat × Value)} {st : List Value} {M : ap_Mem} {a b : Int32} {off : Int} {tgt : Nat} (hc : ap_Cx x g cc own nL) (hd : decode cc pc = .ok (.if_icmp .lt off, 3)) (he : pc + 3 = q) (ht : (pc : Int) + off = (tgt : Int)) (kt : a < b → ap_V x g nL tgt lo st M) (kf : ¬ a < b → ap_V x g nL q lo st M) : ap_V x g nL pc lo (.int b :: .int a :: st) M := by
  subst he
  exact fun ls H locs hl hP hS => lv_icmp_lt hc.1 hc.2.1 hd ht (fun z => kt z ls H locs hl hP hS) (fun z => kf z ls H locs hl hP hS)
theorem ap_if_ge {x : ap_X} {g : ap_G} {nL pc q : Nat} {cc : ByteArray} {own : String} {lo : List (Nat × Value)} {st : List Value} {M : ap_Mem} {a : Int32} {off : Int} {tgt : Nat} (hc : ap_Cx x g cc own nL) (hd : decode cc pc = .ok (.ifCond .ge off, 3)) (he : pc + 3 = q) (ht : (pc : Int) + off = (tgt : Int)) (kt : 0 ≤ a → ap_V x g nL tgt lo st M) (kf : ¬ 0 ≤ a → ap_V x g nL q lo st M) : ap_V x g nL pc lo (.int a :: st) M := by
  subst he
  exact fun ls H locs hl hP hS => lv_if_ge hc.1 hc.2.1 hd ht (fun z => kt z ls H locs hl hP hS) (fun z => kf z ls H locs hl hP hS)
theorem ap_icmp_ge {x : ap_X} {g : ap_G} {nL pc q : Nat} {cc : ByteArray} {own : String} {lo : List (Nat × Value)} {st : List Value} {M : ap_Mem} {a b : Int32} {off : Int} {tgt : Nat} (hc : ap_Cx x g cc own nL) (hd : decode cc pc = .ok (.if_icmp .ge off, 3)) (he : pc + 3 = q) (ht : (pc : Int) + off = (tgt : Int)) (kt : b ≤ a → ap_V x g nL tgt lo st M) (kf : ¬ b ≤ a → ap_V x g nL q lo st M) : ap_V x g nL pc lo (.int b :: .int a :: st) M := by
  subst he
  exact fun ls H locs hl hP hS => lv_icmp_ge hc.1 hc.2.1 hd ht (fun z => kt z ls H locs hl hP hS) (fun z => kf z ls H locs hl hP hS)
theorem ap_if_gt {x : ap_X} {g : ap_G} {nL pc q : Nat} {cc : ByteArray} {own : String} {lo : List (Nat × Value)} {st : List Value} {M : ap_Mem} {a : Int32} {off : Int} {tgt : Nat} (hc : ap_Cx x g cc own nL) (hd : decode cc pc = .ok (.ifCond .gt off, 3)) (he : pc + 3 = q) (ht : (pc : Int) + off = (tgt : Int)) (kt : 0 < a → ap_V x g nL tgt lo st M) (kf : ¬ 0 < a → ap_V x g nL q lo st M) : ap_V x g nL pc lo (.int a :: st) M := by
  subst he
  exact fun ls H locs hl hP hS => lv_if_gt hc.1 hc.2.1 hd ht (fun z => kt z ls H locs hl hP hS) (fun z => kf z ls H locs hl hP hS)
theorem ap_icmp_gt {x : ap_X} {g : ap_G} {nL pc q : Nat} {cc : ByteArray} {own : String} {lo : List (Nat × Value)} {st : List Value} {M : ap_Mem} {a b : Int32} {off : Int} {tgt : Nat} (hc : ap_Cx x g cc own nL) (hd : decode cc pc = .ok (.if_icmp .gt off, 3)) (he : pc + 3 = q) (ht : (pc : Int) + off = (tgt : Int)) (kt : b < a → ap_V x g nL tgt lo st M) (kf : ¬ b < a → ap_V x g nL q lo st M) : ap_V x g nL pc lo (.int b :: .int a :: st) M := by
  subst he
  exact fun ls H locs hl hP hS => lv_icmp_gt hc.1 hc.2.1 hd ht (fun z => kt z ls H locs hl hP hS) (fun z => kf z ls H locs hl hP hS)
theorem ap_if_le {x : ap_X} {g : ap_G} {nL pc q : Nat} {cc : ByteArray} {own : String} {lo : List (Nat × Value)} {st : List Value} {M : ap_Mem} {a : Int32} {off : Int} {tgt : Nat} (hc : ap_Cx x g cc own nL) (hd : decode cc pc = .ok (.ifCond .le off, 3)) (he : pc + 3 = q) (ht : (pc : Int) + off = (tgt : Int)) (kt : a ≤ 0 → ap_V x g nL tgt lo st M) (kf : ¬ a ≤ 0 → ap_V x g nL q lo st M) : ap_V x g nL pc lo (.int a :: st) M := by
  subst he
  exact fun ls H locs hl hP hS => lv_if_le hc.1 hc.2.1 hd ht (fun z => kt z ls H locs hl hP hS) (fun z => kf z ls H locs hl hP hS)
theorem ap_icmp_le {x : ap_X} {g : ap_G} {nL pc q : Nat} {cc : ByteArray} {own : String} {lo : List (Nat × Value)} {st : List Value} {M : ap_Mem} {a b : Int32} {off : Int} {tgt : Nat} (hc : ap_Cx x g cc own nL) (hd : decode cc pc = .ok (.if_icmp .le off, 3)) (he : pc + 3 = q) (ht : (pc : Int) + off = (tgt : Int)) (kt : a ≤ b → ap_V x g nL tgt lo st M) (kf : ¬ a ≤ b → ap_V x g nL q lo st M) : ap_V x g nL pc lo (.int b :: .int a :: st) M := by
  subst he
  exact fun ls H locs hl hP hS => lv_icmp_le hc.1 hc.2.1 hd ht (fun z => kt z ls H locs hl hP hS) (fun z => kf z ls H locs hl hP hS)
theorem ap_goto {x : ap_X} {g : ap_G} {nL pc q : Nat} {cc : ByteArray} {own : String} {lo : List (Nat × Value)} {st : List Value} {M : ap_Mem} {off : Int} (hc : ap_Cx x g cc own nL) (hd : decode cc pc = .ok (.goto off, 3)) (ht : (pc : Int) + off = (q : Int)) (h : ap_V x g nL q lo st M) : ap_V x g nL pc lo st M :=
  fun ls H locs hl hP hS => lv_goto hc.1 hc.2.1 hd ht (h ls H locs hl hP hS)
theorem ap_tabIn {x : ap_X} {g : ap_G} {nL pc : Nat} {cc : ByteArray} {own : String} {lo : List (Nat × Value)} {st : List Value} {M : ap_Mem} {dflt l0 h0 : Int} {offs : Array Int} {len tgt : Nat} {a v : Int32} {off : Int} (hc : ap_Cx x g cc own nL) (hd : decode cc pc = .ok (.tableswitch dflt l0 h0 offs, len)) (hv : a = v) (h1 : ¬ v.toInt < l0) (h2 : ¬ h0 < v.toInt) (ho : offs[(v.toInt - l0).toNat]? = some off) (ht : (pc : Int) + off = (tgt : Int)) (h : ap_V x g nL tgt lo st M) : ap_V x g nL pc lo (.int a :: st) M := by
  subst hv
  exact fun ls H locs hl hP hS => lv_tableIn hc.1 hc.2.1 hd h1 h2 ho ht (h ls H locs hl hP hS)
theorem ap_tabOut {x : ap_X} {g : ap_G} {nL pc : Nat} {cc : ByteArray} {own : String} {lo : List (Nat × Value)} {st : List Value} {M : ap_Mem} {dflt l0 h0 : Int} {offs : Array Int} {len tgt : Nat} {a : Int32} (hc : ap_Cx x g cc own nL) (hd : decode cc pc = .ok (.tableswitch dflt l0 h0 offs, len)) (ho : a.toInt < l0 ∨ h0 < a.toInt) (ht : (pc : Int) + dflt = (tgt : Int)) (h : ap_V x g nL tgt lo st M) : ap_V x g nL pc lo (.int a :: st) M :=
  fun ls H locs hl hP hS => lv_tableOut hc.1 hc.2.1 hd ho ht (h ls H locs hl hP hS)
theorem ap_tabNo {a : Int32} {l0 h0 : Int} (n : Nat) (hn : h0 - l0 < n) (hl : -2147483648 ≤ l0) (hh : h0 < 2147483648) (h : ∀ j : Nat, j < n → l0 + j ≤ h0 → ¬ a = Int32.ofInt (l0 + j)) : a.toInt < l0 ∨ h0 < a.toInt := by
  by_cases h1 : a.toInt < l0
  · exact Or.inl h1
  by_cases h2 : h0 < a.toInt
  · exact Or.inr h2
  refine absurd ?_ (h (a.toInt - l0).toNat (by omega) (by omega))
  rw [show l0 + ((a.toInt - l0).toNat : Int) = a.toInt by omega]
  exact (Int32.ofInt_toInt a).symm
theorem ap_look {x : ap_X} {g : ap_G} {nL pc : Nat} {cc : ByteArray} {own : String} {lo : List (Nat × Value)} {st : List Value} {M : ap_Mem} {dflt : Int} {ps : Array (Int × Int)} {len tgt : Nat} {a : Int32} {off : Int} (hc : ap_Cx x g cc own nL) (hd : decode cc pc = .ok (.lookupswitch dflt ps, len)) (hp : (ps.toList.zip (ps.toList.drop 1)).all (fun (a, next) => a.1 < next.1) = true) (ho : Op.lookupswitch.offset ps.toList dflt a.toInt = off) (ht : (pc : Int) + off = (tgt : Int)) (h : ap_V x g nL tgt lo st M) : ap_V x g nL pc lo (.int a :: st) M :=
  fun ls H locs hl hP hS => lv_lookup hc.1 hc.2.1 hd hp ho ht (h ls H locs hl hP hS)
theorem ap_sub {x : ap_X} {g : ap_G} {nL pc : Nat} {lo : List (Nat × Value)} {st : List Value} {M : ap_Mem} {lo2 : List (Nat × Value)} (ks : List Nat) (hk : lv_pick lo ks = lo2) (h : ap_V x g nL pc lo2 st M) : ap_V x g nL pc lo st M :=
  fun ls H locs hl hP hS => h ls H locs (lv_sub hl ks hk) hP hS
/-! fields -/
def ap_LG (own : String) (i ci k o : Nat) : Prop := ∃ (C : String) (T : u_T) (N : Nat), ap_classes[ci]? = some (C, T, N) ∧ (∀ w ∈ u_ws C T N, w ∈ ap_TW) ∧ k < N ∧ N = ap_nf ci ∧ ci < 20 ∧ Cond.fieldLink own i (T k).1 (T k).2.1 (T k).2.2.1 ∈ ap_TW ∧ ap_fo ci k = o
def ap_LP (own : String) (i ci k : Nat) (ty : FieldType) : Prop := ∃ (C : String) (T : u_T) (N : Nat) (ty0 : Nat → FieldType), ap_classes[ci]? = some (C, T, N) ∧ (∀ w ∈ u_ws C T N, w ∈ ap_TW) ∧ k < N ∧ N = ap_nf ci ∧ ci < 20 ∧ Cond.fieldLink own i (T k).1 (T k).2.1 (T k).2.2.1 ∈ ap_TW ∧ ap_fo ci k = 0 ∧ (∀ k, k < N → parseFieldDescriptor (T k).2.2.1 = some (ty0 k)) ∧ (∀ a, a < N → ∀ b, b < N → a ≠ b → (T a).2.1 ≠ (T b).2.1) ∧ (T k).2.2.2 = false ∧ parseFieldDescriptor (T k).2.2.1 = some ty
theorem ap_get {x : ap_X} {g : ap_G} {nL pc q : Nat} {cc : ByteArray} {own : String} {lo : List (Nat × Value)} {st : List Value} {M : ap_Mem} {i ci k o a r : Nat} (hL : ap_LG own i ci k o) (hq : ap_kd a = ci) (hc : ap_Cx x g cc own nL) (hd : decode cc pc = .ok (.getfield i, 3)) (he : pc + 3 = q) (h : ap_V x g nL q lo (ap_fv g M a ci k :: st) M) : ap_V x g nL pc lo (.ref (ap_ad g a) :: st) M := by
  subst he
  obtain ⟨C, T, N, h1, h2, h3, h4, h5, h6, h7⟩ := hL
  intro ls H locs hl hP hS
  exact va_get hc.1 hc.2.1 hc.2.2.2.2.1 h2 hc.2.2.2.1 hc.2.2.2.2.2.2.1.1 hP a (by rw [ap_ws_at (ap_lt hq (by omega)), ap_cell_o hq h5]) h1 k h3 (hc.2.2.2.2.1 _ h6) (fun _ z => z) (ap_flds_at (by rw [← h4]; exact h3)) hd (h ls H locs hl hP hS)
theorem ap_getI {x : ap_X} {g : ap_G} {nL pc q : Nat} {cc : ByteArray} {own : String} {lo : List (Nat × Value)} {st : List Value} {M : ap_Mem} {i ci k a : Nat} (hL : ap_LG own i ci k 0) (hq : ap_kd a = ci) (hc : ap_Cx x g cc own nL) (hd : decode cc pc = .ok (.getfield i, 3)) (he : pc + 3 = q) (h : ap_V x g nL q lo (.int (M a k) :: st) M) : ap_V x g nL pc lo (.ref (ap_ad g a) :: st) M := by
  refine ap_get (r := 0) hL hq hc hd he ?_
  unfold ap_fv
  rw [if_pos hL.choose_spec.choose_spec.choose_spec.2.2.2.2.2.2]
  exact h
theorem ap_getR {x : ap_X} {g : ap_G} {nL pc q : Nat} {cc : ByteArray} {own : String} {lo : List (Nat × Value)} {st : List Value} {M : ap_Mem} {i ci k o a r : Nat} (hL : ap_LG own i ci k o) (ho : ¬ o = 0) (hq : ap_kd a = ci) (hr : a + o = r) (hc : ap_Cx x g cc own nL) (hd : decode cc pc = .ok (.getfield i, 3)) (he : pc + 3 = q) (h : ap_V x g nL q lo (.ref (ap_ad g r) :: st) M) : ap_V x g nL pc lo (.ref (ap_ad g a) :: st) M := by
  refine ap_get (r := 0) hL hq hc hd he ?_
  have h1 := hL.choose_spec.choose_spec.choose_spec.2.2.2.2.2.2
  unfold ap_fv
  rw [h1, if_neg ho, hr]
  exact h
theorem ap_put {x : ap_X} {g : ap_G} {nL pc q : Nat} {cc : ByteArray} {own : String} {lo : List (Nat × Value)} {st : List Value} {M : ap_Mem} {i ci k a : Nat} {ty : FieldType} {v : Int32} {M2 : ap_Mem} (hL : ap_LP own i ci k ty) (hq : ap_kd a = ci) (hM : M2 = ap_mu M a k v) (hn : narrow ty (.int v) = .int v) (hf : fits ty (.int v) = true) (hc : ap_Cx x g cc own nL) (hd : decode cc pc = .ok (.putfield i, 3)) (he : pc + 3 = q) (h : ap_V x g nL q lo st M2) : ap_V x g nL pc lo (.int v :: .ref (ap_ad g a) :: st) M := by
  subst he; subst hM
  obtain ⟨C, T, N, ty0, h1, h2, h3, h4, h5, h6, h7, h8, h9, h10, h11⟩ := hL
  intro ls H locs hl hP hS
  refine va_put hc.1 hc.2.1 hc.2.2.2.2.1 h2 ty0 h8 h9 hc.2.2.2.1 hc.2.2.2.2.2.2.1.1 hP (ap_ws_D hc.2.2.2.2.2.2.2.1) hS a (by rw [ap_ws_at (ap_lt hq (by omega)), ap_cell_o hq h5]) h1 k h3 (hc.2.2.2.2.1 _ h6) (fun _ z => z) h10 h11 hn hf (by rw [List.length_map, List.length_range, ← h4]; exact h3) hd (fun H1 locs1 hP1 _ hS1 => ?_)
  rw [ap_set_o hq h5 h7] at hP1
  exact h ls H1 locs1 hl hP1 hS1
theorem ap_putI {x : ap_X} {g : ap_G} {nL pc q : Nat} {cc : ByteArray} {own : String} {lo : List (Nat × Value)} {st : List Value} {M : ap_Mem} {i ci k a : Nat} {v : Int32} {M2 : ap_Mem} (hL : ap_LP own i ci k .int) (hq : ap_kd a = ci) (hM : M2 = ap_mu M a k v) (hc : ap_Cx x g cc own nL) (hd : decode cc pc = .ok (.putfield i, 3)) (he : pc + 3 = q) (h : ap_V x g nL q lo st M2) : ap_V x g nL pc lo (.int v :: .ref (ap_ad g a) :: st) M :=
  ap_put hL hq hM rfl rfl hc hd he h
/-- a number that is a boolean -/
def ap_B (v : Int32) : Prop := v = 0 ∨ v = 1
theorem ap_B0 : ap_B 0 := Or.inl rfl
theorem ap_B1 : ap_B 1 := Or.inr rfl
theorem ap_Bn {v : Int32} (h : ap_B v) : narrow .boolean (.int v) = .int v := by rcases h with rfl | rfl <;> decide +kernel
theorem ap_Bf {v : Int32} (h : ap_B v) : fits .boolean (.int v) = true := by rcases h with rfl | rfl <;> decide +kernel
theorem ap_Bv {v : Int32} (h : ap_B v) : vp_nar .boolean v = v := by rcases h with rfl | rfl <;> decide +kernel
theorem ap_putZ {x : ap_X} {g : ap_G} {nL pc q : Nat} {cc : ByteArray} {own : String} {lo : List (Nat × Value)} {st : List Value} {M : ap_Mem} {i ci k a : Nat} {v : Int32} {M2 : ap_Mem} (hL : ap_LP own i ci k .boolean) (hq : ap_kd a = ci) (hb : ap_B v) (hM : M2 = ap_mu M a k v) (hc : ap_Cx x g cc own nL) (hd : decode cc pc = .ok (.putfield i, 3)) (he : pc + 3 = q) (h : ap_V x g nL q lo st M2) : ap_V x g nL pc lo (.int v :: .ref (ap_ad g a) :: st) M :=
  ap_put hL hq hM (ap_Bn hb) (ap_Bf hb) hc hd he h
/-! rows -/
theorem ap_iald {x : ap_X} {g : ap_G} {nL pc q : Nat} {cc : ByteArray} {own : String} {lo : List (Nat × Value)} {st : List Value} {M : ap_Mem} {a n : Nat} {i : Int32} (hq : ap_kd a = 20) (hn : ap_ln a = n) (hi : vp_in i n) (hc : ap_Cx x g cc own nL) (hd : decode cc pc = .ok (.iaload, 1)) (he : pc + 1 = q) (h : ap_V x g nL q lo (.int (M a i.toNatClampNeg) :: st) M) : ap_V x g nL pc lo (.int i :: .ref (ap_ad g a) :: st) M := by
  subst he; subst hn
  exact fun ls H locs hl hP hS => va_iald hc.1 hc.2.1 hc.2.2.2.2.2.2.1.1 hP a 0 (by rw [ap_ws_at (ap_lt hq (by decide)), ap_cell_i hq]) rfl hi hd (h ls H locs hl hP hS)
theorem ap_zald {x : ap_X} {g : ap_G} {nL pc q : Nat} {cc : ByteArray} {own : String} {lo : List (Nat × Value)} {st : List Value} {M : ap_Mem} {a n : Nat} {i : Int32} (hq : ap_kd a = 21) (hn : ap_ln a = n) (hi : vp_in i n) (hc : ap_Cx x g cc own nL) (hd : decode cc pc = .ok (.baload, 1)) (he : pc + 1 = q) (h : ap_V x g nL q lo (.int (M a i.toNatClampNeg) :: st) M) : ap_V x g nL pc lo (.int i :: .ref (ap_ad g a) :: st) M := by
  subst he; subst hn
  exact fun ls H locs hl hP hS => va_zald hc.1 hc.2.1 hc.2.2.2.2.2.2.1.1 hP a 1 (by rw [ap_ws_at (ap_lt hq (by decide)), ap_cell_z hq]) rfl hi hd (h ls H locs hl hP hS)
theorem ap_iast {x : ap_X} {g : ap_G} {nL pc q : Nat} {cc : ByteArray} {own : String} {lo : List (Nat × Value)} {st : List Value} {M : ap_Mem} {a n : Nat} {i v : Int32} {M2 : ap_Mem} (hq : ap_kd a = 20) (hn : ap_ln a = n) (hi : vp_in i n) (hM : M2 = ap_mu M a i.toNatClampNeg v) (hc : ap_Cx x g cc own nL) (hd : decode cc pc = .ok (.iastore, 1)) (he : pc + 1 = q) (h : ap_V x g nL q lo st M2) : ap_V x g nL pc lo (.int v :: .int i :: .ref (ap_ad g a) :: st) M := by
  subst he; subst hn; subst hM
  refine fun ls H locs hl hP hS => va_iast hc.1 hc.2.1 hc.2.2.2.2.2.2.1.1 hP (ap_ws_D hc.2.2.2.2.2.2.2.1) hS a 0 (by rw [ap_ws_at (ap_lt hq (by decide)), ap_cell_i hq]) rfl hi hd (fun H1 locs1 hP1 _ hS1 => ?_)
  rw [ap_set_i hq] at hP1
  exact h ls H1 locs1 hl hP1 hS1
theorem ap_zast {x : ap_X} {g : ap_G} {nL pc q : Nat} {cc : ByteArray} {own : String} {lo : List (Nat × Value)} {st : List Value} {M : ap_Mem} {a n : Nat} {i v : Int32} {M2 : ap_Mem} (hq : ap_kd a = 21) (hn : ap_ln a = n) (hi : vp_in i n) (hb : ap_B v) (hM : M2 = ap_mu M a i.toNatClampNeg v) (hc : ap_Cx x g cc own nL) (hd : decode cc pc = .ok (.bastore, 1)) (he : pc + 1 = q) (h : ap_V x g nL q lo st M2) : ap_V x g nL pc lo (.int v :: .int i :: .ref (ap_ad g a) :: st) M := by
  subst he; subst hn; subst hM
  refine fun ls H locs hl hP hS => va_zast hc.1 hc.2.1 hc.2.2.2.2.2.2.1.1 hP (ap_ws_D hc.2.2.2.2.2.2.2.1) hS a 1 (by rw [ap_ws_at (ap_lt hq (by decide)), ap_cell_z hq]) rfl hi hd (fun H1 locs1 hP1 _ hS1 => ?_)
  rw [ap_Bv hb, ap_set_z hq] at hP1
  exact h ls H1 locs1 hl hP1 hS1
theorem ap_alen {x : ap_X} {g : ap_G} {nL pc q : Nat} {cc : ByteArray} {own : String} {lo : List (Nat × Value)} {st : List Value} {M : ap_Mem} {a n : Nat} (hq : ap_kd a = 20) (hn : ap_ln a = n) (hc : ap_Cx x g cc own nL) (hd : decode cc pc = .ok (.arraylength, 1)) (he : pc + 1 = q) (h : ap_V x g nL q lo (.int (nI n) :: st) M) : ap_V x g nL pc lo (.ref (ap_ad g a) :: st) M := by
  subst he; subst hn
  exact fun ls H locs hl hP hS => va_alen (v := nI (ap_ln a)) hc.1 hc.2.1 hc.2.2.2.2.2.2.1.1 hP a 0 (by rw [ap_ws_at (ap_lt hq (by decide)), ap_cell_i hq]) rfl rfl hd (h ls H locs hl hP hS)
/-! tables and texts -/
theorem ap_kald {x : ap_X} {g : ap_G} {nL pc q : Nat} {cc : ByteArray} {own : String} {lo : List (Nat × Value)} {st : List Value} {M : ap_Mem} {j n : Nat} {i : Int32} (hj : j < 3) (hn : ap_kN j = n) (hi : vp_in i n) (hc : ap_Cx x g cc own nL) (hd : decode cc pc = .ok (.iaload, 1)) (he : pc + 1 = q) (h : ap_V x g nL q lo (.int (ap_kT j i.toNatClampNeg) :: st) M) : ap_V x g nL pc lo (.int i :: .ref (ap_gT g j) :: st) M := by
  subst he; subst hn
  obtain ⟨-, -, -, -, -, ⟨-, t0⟩, ⟨-, t1⟩, ⟨-, t2⟩, -⟩ := hc.2.2.2.2.2.2.1
  intro ls H locs hl hP hS
  rcases (by omega : j = 0 ∨ j = 1 ∨ j = 2) with rfl | rfl | rfl
  · exact va_ti hc.1 hc.2.1 t0 hS hi rfl hd (h ls H locs hl hP hS)
  · exact va_ti hc.1 hc.2.1 t1 hS hi rfl hd (h ls H locs hl hP hS)
  · exact va_ti hc.1 hc.2.1 t2 hS hi rfl hd (h ls H locs hl hP hS)
theorem ap_klen {x : ap_X} {g : ap_G} {nL pc q : Nat} {cc : ByteArray} {own : String} {lo : List (Nat × Value)} {st : List Value} {M : ap_Mem} {j n : Nat} (hj : j < 3) (hn : ap_kN j = n) (hc : ap_Cx x g cc own nL) (hd : decode cc pc = .ok (.arraylength, 1)) (he : pc + 1 = q) (h : ap_V x g nL q lo (.int (nI n) :: st) M) : ap_V x g nL pc lo (.ref (ap_gT g j) :: st) M := by
  subst he; subst hn
  obtain ⟨-, -, -, -, -, ⟨-, t0⟩, ⟨-, t1⟩, ⟨-, t2⟩, -⟩ := hc.2.2.2.2.2.2.1
  intro ls H locs hl hP hS
  rcases (by omega : j = 0 ∨ j = 1 ∨ j = 2) with rfl | rfl | rfl
  · exact va_tlen hc.1 hc.2.1 t0 hS rfl hd (h ls H locs hl hP hS)
  · exact va_tlen hc.1 hc.2.1 t1 hS rfl hd (h ls H locs hl hP hS)
  · exact va_tlen hc.1 hc.2.1 t2 hS rfl hd (h ls H locs hl hP hS)
theorem ap_gets0 {x : ap_X} {g : ap_G} {nL pc q : Nat} {cc : ByteArray} {own : String} {lo : List (Nat × Value)} {st : List Value} {M : ap_Mem} {i : Nat} (hw : Cond.fieldLink own i RX8 "ABOVE" "[I" ∈ ap_TW) (hc : ap_Cx x g cc own nL) (hd : decode cc pc = .ok (.getstatic i, 3)) (he : pc + 3 = q) (h : ap_V x g nL q lo (.ref (ap_gT g 0) :: st) M) : ap_V x g nL pc lo st M := by
  subst he
  obtain ⟨-, -, -, -, -, ⟨t0, -⟩, ⟨t1, -⟩, ⟨t2, -⟩, -⟩ := hc.2.2.2.2.2.2.1
  exact fun ls H locs hl hP hS => va_gets hc.1 hc.2.1 t0 hS hc.2.2.2.1 (hc.2.2.2.2.1 _ hw) (fun _ z => z) hd (h ls H locs hl hP hS)
theorem ap_gets0N {x : ap_X} {g : ap_G} {nL pc q : Nat} {cc : ByteArray} {own : String} {lo : List (Nat × Value)} {st : List Value} {M : ap_Mem} (hown : own = RX0) (hc : ap_Cx x g cc own nL) (hd : decode cc pc = .ok (.getstatic 47, 3)) (he : pc + 3 = q) (h : ap_V x g nL q lo (.ref (ap_gT g 0) :: st) M) : ap_V x g nL pc lo st M := by
  subst he; subst hown
  obtain ⟨-, -, -, -, n4, ⟨t0, -⟩, ⟨t1, -⟩, ⟨t2, -⟩, -⟩ := hc.2.2.2.2.2.2.1
  exact fun ls H locs hl hP hS => va_getsN hc.1 hc.2.1 t0 hS hc.2.2.2.1 (va_Nw.use rfl n4) (fun _ z => z) hd (h ls H locs hl hP hS)
theorem ap_gets1 {x : ap_X} {g : ap_G} {nL pc q : Nat} {cc : ByteArray} {own : String} {lo : List (Nat × Value)} {st : List Value} {M : ap_Mem} {i : Nat} (hw : Cond.fieldLink own i RX2 "STRIDES_TO_NEXT" "[I" ∈ ap_TW) (hc : ap_Cx x g cc own nL) (hd : decode cc pc = .ok (.getstatic i, 3)) (he : pc + 3 = q) (h : ap_V x g nL q lo (.ref (ap_gT g 1) :: st) M) : ap_V x g nL pc lo st M := by
  subst he
  obtain ⟨-, -, -, -, -, ⟨t0, -⟩, ⟨t1, -⟩, ⟨t2, -⟩, -⟩ := hc.2.2.2.2.2.2.1
  exact fun ls H locs hl hP hS => va_gets hc.1 hc.2.1 t1 hS hc.2.2.2.1 (hc.2.2.2.2.1 _ hw) (fun _ z => z) hd (h ls H locs hl hP hS)
theorem ap_gets2 {x : ap_X} {g : ap_G} {nL pc q : Nat} {cc : ByteArray} {own : String} {lo : List (Nat × Value)} {st : List Value} {M : ap_Mem} {i : Nat} (hw : Cond.fieldLink own i RX0 "BODIES" "[I" ∈ ap_TW) (hc : ap_Cx x g cc own nL) (hd : decode cc pc = .ok (.getstatic i, 3)) (he : pc + 3 = q) (h : ap_V x g nL q lo (.ref (ap_gT g 2) :: st) M) : ap_V x g nL pc lo st M := by
  subst he
  obtain ⟨-, -, -, -, -, ⟨t0, -⟩, ⟨t1, -⟩, ⟨t2, -⟩, -⟩ := hc.2.2.2.2.2.2.1
  exact fun ls H locs hl hP hS => va_gets hc.1 hc.2.1 t2 hS hc.2.2.2.1 (hc.2.2.2.2.1 _ hw) (fun _ z => z) hd (h ls H locs hl hP hS)
theorem ap_getCS {x : ap_X} {g : ap_G} {nL pc q : Nat} {cc : ByteArray} {own : String} {lo : List (Nat × Value)} {st : List Value} {M : ap_Mem} {i : Nat} (hw : Cond.fieldLink own i RJ0 "COMPACT_STRINGS" "Z" ∈ ap_TW) (hc : ap_Cx x g cc own nL) (hd : decode cc pc = .ok (.getstatic i, 3)) (he : pc + 3 = q) (h : ap_V x g nL q lo (.int 1 :: st) M) : ap_V x g nL pc lo st M := by
  subst he
  obtain ⟨-, -, -, -, -, -, -, -, -, -, t0, -⟩ := hc.2.2.2.2.2.2.1
  exact fun ls H locs hl hP hS => va_gets hc.1 hc.2.1 t0 hS hc.2.2.2.1 (hc.2.2.2.2.1 _ hw) (fun _ z => z) hd (h ls H locs hl hP hS)
theorem ap_getSF {x : ap_X} {g : ap_G} {nL pc q : Nat} {cc : ByteArray} {own : String} {lo : List (Nat × Value)} {st : List Value} {M : ap_Mem} {i : Nat} (hw : Cond.fieldLink own i RJ3 "SIOOBE_FORMATTER" "Ljava/util/function/BiFunction;" ∈ ap_TW) (hc : ap_Cx x g cc own nL) (hd : decode cc pc = .ok (.getstatic i, 3)) (he : pc + 3 = q) (h : ∀ v : Value, v.category = 1 → ap_V x g nL q lo (v :: st) M) : ap_V x g nL pc lo st M := by
  subst he
  obtain ⟨-, -, -, -, -, -, -, -, -, -, -, t0⟩ := hc.2.2.2.2.2.2.1
  intro ls H locs hl hP hS
  rcases t0 with t0 | ⟨t, t0⟩
  · exact va_gets hc.1 hc.2.1 t0 hS hc.2.2.2.1 (hc.2.2.2.2.1 _ hw) (fun _ z => z) hd (h _ rfl ls H locs hl hP hS)
  · exact va_gets hc.1 hc.2.1 t0 hS hc.2.2.2.1 (hc.2.2.2.2.1 _ hw) (fun _ z => z) hd (h _ rfl ls H locs hl hP hS)
theorem ap_ldcS {x : ap_X} {g : ap_G} {nL pc q : Nat} {cc : ByteArray} {own : String} {lo : List (Nat × Value)} {st : List Value} {M : ap_Mem} {i w : Nat} {tx : String} (hw : (own, i, tx, w) ∈ ap_sref) (hc : ap_Cx x g cc own nL) (hd : decode cc pc = .ok (.ldc i, 2)) (he : pc + 2 = q) (h : ap_V x g nL q lo (.ref (ap_gK g w) :: st) M) : ap_V x g nL pc lo st M := by
  subst he
  obtain ⟨-, -, -, -, -, -, -, -, t0, -⟩ := hc.2.2.2.2.2.2.1
  exact fun ls H locs hl hP hS => va_ldcS hc.1 hc.2.1 hc.2.2.2.1 (t0 _ hw) hd (h ls H locs hl hP hS)
theorem ap_sval {x : ap_X} {g : ap_G} {nL pc q : Nat} {cc : ByteArray} {own : String} {lo : List (Nat × Value)} {st : List Value} {M : ap_Mem} {i w : Nat} (hi : w < 6) (hw : Cond.fieldLink own i RJ0 "value" "[B" ∈ ap_TW) (hc : ap_Cx x g cc own nL) (hd : decode cc pc = .ok (.getfield i, 3)) (he : pc + 3 = q) (h : ap_V x g nL q lo (.ref (ap_gV g w) :: st) M) : ap_V x g nL pc lo (.ref (ap_gK g w) :: st) M := by
  subst he
  obtain ⟨-, -, -, -, -, -, -, -, -, t0, -⟩ := hc.2.2.2.2.2.2.1
  exact fun ls H locs hl hP hS => vk_getf hc.1 hc.2.1 (t0.1 w hi).2.2.1 hS hc.2.2.2.1 (hc.2.2.2.2.1 _ hw) (fun _ z => z) hd (h ls H locs hl hP hS)
theorem ap_scod {x : ap_X} {g : ap_G} {nL pc q : Nat} {cc : ByteArray} {own : String} {lo : List (Nat × Value)} {st : List Value} {M : ap_Mem} {i w : Nat} (hi : w < 6) (hw : Cond.fieldLink own i RJ0 "coder" "B" ∈ ap_TW) (hc : ap_Cx x g cc own nL) (hd : decode cc pc = .ok (.getfield i, 3)) (he : pc + 3 = q) (h : ap_V x g nL q lo (.int 0 :: st) M) : ap_V x g nL pc lo (.ref (ap_gK g w) :: st) M := by
  subst he
  obtain ⟨-, -, -, -, -, -, -, -, -, t0, -⟩ := hc.2.2.2.2.2.2.1
  exact fun ls H locs hl hP hS => vk_getf hc.1 hc.2.1 (t0.1 w hi).2.1 hS hc.2.2.2.1 (hc.2.2.2.2.1 _ hw) (fun _ z => z) hd (h ls H locs hl hP hS)
def ap_sL (w : Nat) : Nat := ap_sl.getD w 0
def ap_sB (w j : Nat) : Int32 := (ap_sb.getD w []).getD j 0
theorem ap_blen {x : ap_X} {g : ap_G} {nL pc q : Nat} {cc : ByteArray} {own : String} {lo : List (Nat × Value)} {st : List Value} {M : ap_Mem} {w : Nat} (hi : w < 6) (hc : ap_Cx x g cc own nL) (hd : decode cc pc = .ok (.arraylength, 1)) (he : pc + 1 = q) (h : ap_V x g nL q lo (.int (nI (ap_sL w)) :: st) M) : ap_V x g nL pc lo (.ref (ap_gV g w) :: st) M := by
  subst he
  obtain ⟨-, -, -, -, -, -, -, -, -, t0, -⟩ := hc.2.2.2.2.2.2.1
  exact fun ls H locs hl hP hS => va_tlen hc.1 hc.2.1 (t0.1 w hi).2.2.2 hS rfl hd (h ls H locs hl hP hS)
theorem ap_bald {x : ap_X} {g : ap_G} {nL pc q : Nat} {cc : ByteArray} {own : String} {lo : List (Nat × Value)} {st : List Value} {M : ap_Mem} {w : Nat} {i : Int32} (hw : w < 6) (hi : vp_in i (ap_sL w)) (hc : ap_Cx x g cc own nL) (hd : decode cc pc = .ok (.baload, 1)) (he : pc + 1 = q) (h : ap_V x g nL q lo (.int (ap_sB w i.toNatClampNeg) :: st) M) : ap_V x g nL pc lo (.int i :: .ref (ap_gV g w) :: st) M := by
  subst he
  obtain ⟨-, -, -, -, -, -, -, -, -, t0, -⟩ := hc.2.2.2.2.2.2.1
  exact fun ls H locs hl hP hS => va_tb hc.1 hc.2.1 (t0.1 w hw).2.2.2 hS hi rfl hd (h ls H locs hl hP hS)
theorem ap_nm {α : Type} {e : α} {P : α → Prop} (h : ∀ v, v = e → P v) : ∃ v, v = e ∧ P v := ⟨e, rfl, h e rfl⟩
theorem ap_ty {ci q : Nat} {P : Nat → Prop} (hd : ∀ q, q < ap_NM → ap_kd q = ci → P q) (hc : ci ≠ 99) (h : ap_kd q = ci) : P q := hd q (ap_lt h hc) h
/-! members of Math and System -/
def ap_max (a b : Int32) : Int32 := if a < b then b else a
def ap_min (a b : Int32) : Int32 := if b < a then b else a
def ap_abs (a : Int32) : Int32 := if 0 ≤ a then a else 0 - a
def ap_LM (own : String) (i : Nat) (y : MethodName) (cc : ByteArray) (n : Nat) : Prop := Cond.methodLink own i y ∈ ap_TW ∧ Cond.static y ∈ ap_TW ∧ Cond.initialized "java/lang/Math" ∈ ap_TW ∧ Cond.code y cc n (some .int) ∈ ap_TW
def ap_Rm (x : ap_X) (k : Nat) : Prop := k ≤ (xR x).frames ∧ 64 * k ≤ (xR x).locals
theorem ap_RmE {x : ap_X} {g : ap_G} {k n : Nat} {ret : Option FieldType} {Q : Option Value → ap_Mem → Prop} (h : ap_Ends x g n ret Q) (hk : k ≤ n) : ap_Rm x k := by
  unfold ap_Rm
  rw [h.1]
  exact ⟨hk, Nat.mul_le_mul_left 64 hk⟩
theorem ap_mmax {x : ap_X} {g : ap_G} {nL pc q : Nat} {cc : ByteArray} {own : String} {lo : List (Nat × Value)} {st : List Value} {M : ap_Mem} {i : Nat} {a b : Int32} (hL : ap_LM own i Lib.Math.max.name Lib.Math.max.code 2) (hR : ap_Rm x 1) (hw : (st.map fun v => v.category).sum ≤ 8) (hc : ap_Cx x g cc own nL) (hd : decode cc pc = .ok (.invokestatic i, 3)) (he : pc + 3 = q) (h : ap_V x g nL q lo (.int (ap_max a b) :: st) M) : ap_V x g nL pc lo (.int b :: .int a :: st) M := by
  subst he
  exact fun ls H locs hl hP hS => va_mmax hc.1 hc.2.1 (hc.2.2.1.trans hl.1.symm) hc.2.2.2.1 (hc.2.2.2.2.1 _ hL.1) (hc.2.2.2.2.1 _ hL.2.1) (hc.2.2.2.2.1 _ hL.2.2.1) (hc.2.2.2.2.1 _ hL.2.2.2) hR.1 (by have := hR.2; omega) hc.2.2.2.2.2.2.2.2.1 hc.2.2.2.2.2.2.2.2.2 hd (h ls H locs hl hP hS)
theorem ap_mmin {x : ap_X} {g : ap_G} {nL pc q : Nat} {cc : ByteArray} {own : String} {lo : List (Nat × Value)} {st : List Value} {M : ap_Mem} {i : Nat} {a b : Int32} (hL : ap_LM own i Lib.Math.min.name Lib.Math.min.code 2) (hR : ap_Rm x 1) (hw : (st.map fun v => v.category).sum ≤ 8) (hc : ap_Cx x g cc own nL) (hd : decode cc pc = .ok (.invokestatic i, 3)) (he : pc + 3 = q) (h : ap_V x g nL q lo (.int (ap_min a b) :: st) M) : ap_V x g nL pc lo (.int b :: .int a :: st) M := by
  subst he
  exact fun ls H locs hl hP hS => va_mmin hc.1 hc.2.1 (hc.2.2.1.trans hl.1.symm) hc.2.2.2.1 (hc.2.2.2.2.1 _ hL.1) (hc.2.2.2.2.1 _ hL.2.1) (hc.2.2.2.2.1 _ hL.2.2.1) (hc.2.2.2.2.1 _ hL.2.2.2) hR.1 (by have := hR.2; omega) hc.2.2.2.2.2.2.2.2.1 hc.2.2.2.2.2.2.2.2.2 hd (h ls H locs hl hP hS)
theorem ap_mabs {x : ap_X} {g : ap_G} {nL pc q : Nat} {cc : ByteArray} {own : String} {lo : List (Nat × Value)} {st : List Value} {M : ap_Mem} {i : Nat} {a : Int32} (hL : ap_LM own i Lib.Math.abs.name Lib.Math.abs.code 1) (hR : ap_Rm x 1) (hw : (st.map fun v => v.category).sum ≤ 8) (hc : ap_Cx x g cc own nL) (hd : decode cc pc = .ok (.invokestatic i, 3)) (he : pc + 3 = q) (h : ap_V x g nL q lo (.int (ap_abs a) :: st) M) : ap_V x g nL pc lo (.int a :: st) M := by
  subst he
  exact fun ls H locs hl hP hS => va_mabs hc.1 hc.2.1 (hc.2.2.1.trans hl.1.symm) hc.2.2.2.1 (hc.2.2.2.2.1 _ hL.1) (hc.2.2.2.2.1 _ hL.2.1) (hc.2.2.2.2.1 _ hL.2.2.1) (hc.2.2.2.2.1 _ hL.2.2.2) hR.1 (by have := hR.2; omega) hc.2.2.2.2.2.2.2.2.1 hc.2.2.2.2.2.2.2.2.2 hd (h ls H locs hl hP hS)
def ap_LA (own : String) (i : Nat) : Prop := Cond.methodLink own i arraycopyName ∈ ap_TW ∧ Cond.native arraycopyName ∈ ap_TW ∧ Cond.static arraycopyName ∈ ap_TW ∧ Cond.initialized "java/lang/System" ∈ ap_TW
theorem ap_copy {x : ap_X} {g : ap_G} {nL pc q : Nat} {cc : ByteArray} {own : String} {lo : List (Nat × Value)} {st : List Value} {M : ap_Mem} {i a0 a1 n0 n1 n : Nat} {c : Int32} {M2 : ap_Mem} (hL : ap_LA own i) (hR : ap_Rm x 1) (hw : (st.map fun v => v.category).sum ≤ 8) (h0 : ap_kd a0 = 20) (h1 : ap_kd a1 = 20) (hn0 : ap_ln a0 = n0) (hn1 : ap_ln a1 = n1) (hcn : c = nI n) (hn : n < 2147483648) (hle0 : n ≤ n0) (hle1 : n ≤ n1) (hM : M2 = ap_mc M a0 a1 0 0 n) (hc : ap_Cx x g cc own nL) (hd : decode cc pc = .ok (.invokestatic i, 3)) (he : pc + 3 = q) (h : ap_V x g nL q lo st M2) : ap_V x g nL pc lo (.int c :: .int 0 :: .ref (ap_ad g a1) :: .int 0 :: .ref (ap_ad g a0) :: st) M := by
  subst he; subst hM; subst hn0; subst hn1; subst hcn
  have e : (nI n).toNatClampNeg = n := nI_clamp hn
  refine fun ls H locs hl hP hS => va_copyi hc.1 hc.2.1 (hc.2.2.1.trans hl.1.symm) hc.2.2.2.1 (hc.2.2.2.2.1 _ hL.1) (hc.2.2.2.2.1 _ hL.2.1) (hc.2.2.2.2.1 _ hL.2.2.1) (hc.2.2.2.2.1 _ hL.2.2.2) hc.2.2.2.2.2.2.1.1 hP (ap_ws_D hc.2.2.2.2.2.2.2.1) hS a0 a1 0 0 (by rw [ap_ws_at (ap_lt h0 (by decide)), ap_cell_i h0]) (by rw [ap_ws_at (ap_lt h1 (by decide)), ap_cell_i h1]) rfl rfl rfl (by decide) (by decide) (nI_pos hn) (by rw [e]; exact (Nat.zero_add n).symm ▸ hle0) (by rw [e]; exact (Nat.zero_add n).symm ▸ hle1) (fun _ _ => rfl) hR.1 (by have := hR.2; have e9 : nativeFrameWords "java/lang/System" "arraycopy" 5 ≤ 32 := (by decide +kernel); omega) hd (fun H1 locs1 hP1 _ hS1 => ?_)
  rw [e, ap_set_c h1] at hP1
  exact h ls H1 locs1 hl hP1 hS1
/-! ends -/
theorem ap_iret {x : ap_X} {g : ap_G} {nL pc k : Nat} {cc : ByteArray} {own : String} {lo : List (Nat × Value)} {M : ap_Mem} {v : Int32} {ty : FieldType} {K : Int32 → ap_Mem → Prop} (hc : ap_Cx x g cc own nL) (hz : ap_Ends x g k (some ty) (ap_Qi K)) (hn : narrow ty (.int v) = .int v) (hd : decode cc pc = .ok (.ireturn, 1)) (h : K v M) : ap_V x g nL pc lo [.int v] M := by
  intro ls H locs hl hP hS
  unfold ap_Wx
  obtain ⟨z1, z2, z3, z4, z5⟩ := hz
  rw [z4, z2, z3]
  exact W.zret (v := v) hc.1 hc.2.1 z5 hn (fun t ht hW => ⟨⟨_, M, rfl, ⟨v, rfl, h⟩, by rw [ht]; exact hP⟩, hS.F ht⟩) hS.2.2 hd hc.2.2.2.2.2.1
theorem ap_lret {x : ap_X} {g : ap_G} {nL pc k : Nat} {cc : ByteArray} {own : String} {lo : List (Nat × Value)} {M : ap_Mem} {v : Int64} {K : Int64 → ap_Mem → Prop} (hc : ap_Cx x g cc own nL) (hz : ap_Ends x g k (some .long) (ap_Ql K)) (hd : decode cc pc = .ok (.lreturn, 1)) (h : K v M) : ap_V x g nL pc lo [.long v] M := by
  intro ls H locs hl hP hS
  unfold ap_Wx
  obtain ⟨z1, z2, z3, z4, z5⟩ := hz
  rw [z4, z2, z3]
  exact W.lret (v := v) hc.1 hc.2.1 z5 (fun t ht hW => ⟨⟨_, M, rfl, ⟨v, rfl, h⟩, by rw [ht]; exact hP⟩, hS.F ht⟩) hS.2.2 hd hc.2.2.2.2.2.1
theorem ap_vret {x : ap_X} {g : ap_G} {nL pc k : Nat} {cc : ByteArray} {own : String} {lo : List (Nat × Value)} {M : ap_Mem} {K : ap_Mem → Prop} (hc : ap_Cx x g cc own nL) (hz : ap_Ends x g k none (ap_Qv K)) (hd : decode cc pc = .ok (.return_, 1)) (h : K M) : ap_V x g nL pc lo [] M := by
  intro ls H locs hl hP hS
  unfold ap_Wx
  obtain ⟨z1, z2, z3, z4, z5⟩ := hz
  rw [z4, z2, z3]
  exact W.vret hc.1 hc.2.1 z5 (fun t ht hW => ⟨⟨_, M, rfl, ⟨rfl, h⟩, by rw [ht]; exact hP⟩, hS.F ht⟩) hS.2.2 hd hc.2.2.2.2.2.1
/-! calls -/
def ap_LK (y : MethodName) (cc : ByteArray) (maxL : Nat) (ret : Option FieldType) (n : Nat) : Prop := (Cond.code y cc maxL ret ∈ ap_TW ∧ Cond.initialized y.cls ∈ ap_TW ∧ maxL ≤ 45) ∧ (y.cls ≠ "java/lang/invoke/MethodHandle" ∧ y.cls ≠ "java/lang/invoke/VarHandle" ∧ (parseMethodDescriptor y.desc).map (fun d => d.parameters.length) = some n)
def ap_LV (y : MethodName) : Prop := Cond.instanceMethod y ∈ ap_TW ∧ Cond.selects y.cls y y ∈ ap_TW
theorem ap_good {w : Cond} (h : w ∈ ap_TW) : w ∈ ap_TW ∧ ((w.onTables && w.keeps) = true ∨ ∃ ty, w = .arrayClass ty) := ⟨h, good_of_word (List.mem_filter.mp h).2⟩
theorem ap_goodK {y : MethodName} {cc : ByteArray} {maxL n : Nat} {ret : Option FieldType} (h : ap_LK y cc maxL ret n) : GoodIn ap_TW (.code y cc maxL ret :: ap_TW) := by
  intro w hw
  rcases List.mem_cons.mp hw with rfl | hw
  · exact ap_good h.1.1
  · exact ap_good hw
theorem ap_runs {x : ap_X} {g : ap_G} {nL pc q : Nat} {lo : List (Nat × Value)} {st : List Value} {M : ap_Mem} {av : List Value} {st0 : List Value} {Q : Option Value → ap_Mem → Prop}
    (hrun : ∀ (ls : Array Slot) (H : Heap) (locs : List Loc), lv_has ls nL lo → va_P (ap_gD g) ap_classes (ap_ws g M) H → va_S (ap_gA g) (xS x).heap H locs → va_Run (xP x) (xL x) (xE x) (xR x) (xS x) (xM x) (xA x) (xB x) (xT x) (xC x) H locs (xc x) (xs x) 0 0 (F0 (xM x) pc ls st0) st (ap_Qc g Q av.toArray) (ap_gA g))
    (he : pc + 3 = q) (h : ∀ (r : Option Value) (M2 : ap_Mem), Q r M2 → ap_V x g nL q lo (r.toList ++ st) M2) : ap_V x g nL pc lo st0 M := by
  subst he
  intro ls H locs hl hP hS T hT X
  obtain ⟨v, st₀, t, T', L, h0, X', hL, e1, e2, ⟨⟨r, M2, hv, hq, hP2⟩, hz, hk⟩, stp⟩ := hrun ls H locs hl hP hS T hT X
  cases hv
  rw [h0] at hz hk
  obtain ⟨t2, a1, b1⟩ := h v M2 hq ls T'.heap (locs ++ L) hl (by rw [e1]; exact hP2) ⟨Nat.le_trans hS.1 (by rw [e1]; exact hz), fun q h1 h2 => by rw [e1, hk q (Nat.lt_of_lt_of_le h1 hS.1) h2]; exact hS.2.1 q h1 h2, fun q hq => by
    rcases List.mem_append.mp hq with h | h
    · exact hS.2.2 q h
    · exact hL q h⟩ T' rfl X'
  exact ⟨t2, stp t2 a1, b1⟩
theorem ap_PreS {x : ap_X} {g : ap_G} {cc : ByteArray} {own : String} {nL : Nat} {M : ap_Mem} {H : Heap} {locs : List Loc} {av : List Value} (hc : ap_Cx x g cc own nL) (hP : va_P (ap_gD g) ap_classes (ap_ws g M) H) (hS : va_S (ap_gA g) (xS x).heap H locs) : PreS (xS x) H (ap_Pc g M av) av :=
  ⟨ap_blind, fun U hU hW => ⟨rfl, by rw [hU]; exact ap_Env_go hc.2.2.2.2.2.2.1 hW hS, by rw [hU]; exact hP⟩⟩
theorem ap_callV {x : ap_X} {g : ap_G} {nL pc q : Nat} {cc : ByteArray} {own : String} {lo : List (Nat × Value)} {st : List Value} {M : ap_Mem} {i a ci k n maxL : Nat} {y : MethodName} {cy : ByteArray} {ret : Option FieldType} {As : List Value} {st0 : List Value} {Q : Option Value → ap_Mem → Prop} (hc : ap_Cx x g cc own nL) (hM : ap_Ct (xL x) g y cy maxL ret k (.ref (ap_ad g a) :: As) M Q) (hw : Cond.methodLink own i y ∈ ap_TW) (hK : ap_LK y cy maxL ret n) (hV : ap_LV y) (hq : ap_kd a = ci) (hci : (ap_classes[ci]?).map (fun z => z.1) = some y.cls) (hR : ap_Rm x (k + 1)) (hn : As.length = n) (hst : st0 = As.reverse ++ .ref (ap_ad g a) :: st) (hwt : (st.map fun v => v.category).sum ≤ 8) (hd : decode cc pc = .ok (.invokevirtual i, 3)) (he : pc + 3 = q)
    (h : ∀ (r : Option Value) (M2 : ap_Mem), Q r M2 → ap_V x g nL q lo (r.toList ++ st) M2) : ap_V x g nL pc lo st0 M := by
  refine ap_runs (av := .ref (ap_ad g a) :: As) (fun ls H locs hl hP hS => ?_) he h
  obtain ⟨z, hz1, hz2⟩ := Option.map_eq_some_iff.mp hci
  have hci2 : ci < 20 := by
    have h1 := (List.getElem?_eq_some_iff.mp hz1).1
    have h2 : ap_classes.length ≤ 20 := Nat.le_of_ble_eq_true rfl
    omega
  have hS1 := ap_PreS (av := .ref (ap_ad g a) :: As) hc hP hS
  have hrec := va_recv hc.2.2.2.2.2.2.1.1 hP (q0 := a) (ci := ci) hz1 (by rw [ap_ws_at (ap_lt hq (by omega)), ap_cell_o hq hci2])
  rw [hz2] at hrec
  refine va_runV (C := y.cls) ⟨hc.1, hc.2.1, hc.2.2.1, hc.2.2.2.1, hc.2.2.2.2.1⟩ hM ⟨callB_of n hc.2.2.2.2.1 (ap_goodK hK) rfl rfl rfl (hc.2.2.2.2.1 _ hK.1.2.1) (hc.2.2.2.2.1 _ hw) hK.2 ⟨hR.1, ?_⟩, hc.2.2.2.2.1 _ hV.1, hc.2.2.2.2.1 _ hV.2⟩ ⟨hS1.1, hrec, hS1.2⟩ rfl hn hl.1 hst (lv_room hwt) hd ⟨hc.2.2.2.2.2.2.2.2.1, hc.2.2.2.2.2.2.2.2.2⟩
  have h1 := hR.2
  have h2 := hK.1.2.2
  show 8 + (maxL + 11) + 64 * k ≤ _
  omega
theorem ap_callT {x : ap_X} {g : ap_G} {nL pc q : Nat} {cc : ByteArray} {own : String} {lo : List (Nat × Value)} {st : List Value} {M : ap_Mem} {i w k n maxL : Nat} {y : MethodName} {cy : ByteArray} {ret : Option FieldType} {As : List Value} {st0 : List Value} {Q : Option Value → ap_Mem → Prop} (hc : ap_Cx x g cc own nL) (hM : ap_Ct (xL x) g y cy maxL ret k (.ref (ap_gK g w) :: As) M Q) (hw : Cond.methodLink own i y ∈ ap_TW) (hK : ap_LK y cy maxL ret n) (hV : ap_LV y) (hi : w < 6) (hci : y.cls = "java/lang/String") (hR : ap_Rm x (k + 1)) (hn : As.length = n) (hst : st0 = As.reverse ++ .ref (ap_gK g w) :: st) (hwt : (st.map fun v => v.category).sum ≤ 8) (hd : decode cc pc = .ok (.invokevirtual i, 3)) (he : pc + 3 = q)
    (h : ∀ (r : Option Value) (M2 : ap_Mem), Q r M2 → ap_V x g nL q lo (r.toList ++ st) M2) : ap_V x g nL pc lo st0 M := by
  refine ap_runs (av := .ref (ap_gK g w) :: As) (fun ls H locs hl hP hS => ?_) he h
  have hS1 := ap_PreS (av := .ref (ap_gK g w) :: As) hc hP hS
  obtain ⟨-, -, -, -, -, -, -, -, -, t0, -⟩ := hc.2.2.2.2.2.2.1
  have hrec := vk_recv t0 hi hS
  rw [← hci] at hrec
  refine va_runV (C := y.cls) ⟨hc.1, hc.2.1, hc.2.2.1, hc.2.2.2.1, hc.2.2.2.2.1⟩ hM ⟨callB_of n hc.2.2.2.2.1 (ap_goodK hK) rfl rfl rfl (hc.2.2.2.2.1 _ hK.1.2.1) (hc.2.2.2.2.1 _ hw) hK.2 ⟨hR.1, ?_⟩, hc.2.2.2.2.1 _ hV.1, hc.2.2.2.2.1 _ hV.2⟩ ⟨hS1.1, hrec, hS1.2⟩ rfl hn hl.1 hst (lv_room hwt) hd ⟨hc.2.2.2.2.2.2.2.2.1, hc.2.2.2.2.2.2.2.2.2⟩
  have h1 := hR.2
  have h2 := hK.1.2.2
  show 8 + (maxL + 11) + 64 * k ≤ _
  omega
theorem ap_callS {x : ap_X} {g : ap_G} {nL pc q : Nat} {cc : ByteArray} {own : String} {lo : List (Nat × Value)} {st : List Value} {M : ap_Mem} {i k n maxL : Nat} {y : MethodName} {cy : ByteArray} {ret : Option FieldType} {As : List Value} {st0 : List Value} {Q : Option Value → ap_Mem → Prop} (hc : ap_Cx x g cc own nL) (hM : ap_Ct (xL x) g y cy maxL ret k As M Q) (hw : Cond.methodLink own i y ∈ ap_TW) (hK : ap_LK y cy maxL ret n) (hV : Cond.static y ∈ ap_TW) (hR : ap_Rm x (k + 1)) (hn : As.length = n) (hst : st0 = As.reverse ++ st) (hwt : (st.map fun v => v.category).sum ≤ 8) (hd : decode cc pc = .ok (.invokestatic i, 3)) (he : pc + 3 = q)
    (h : ∀ (r : Option Value) (M2 : ap_Mem), Q r M2 → ap_V x g nL q lo (r.toList ++ st) M2) : ap_V x g nL pc lo st0 M := by
  refine ap_runs (av := As) (fun ls H locs hl hP hS => ?_) he h
  have hS1 := ap_PreS (av := As) hc hP hS
  refine va_runS ⟨hc.1, hc.2.1, hc.2.2.1, hc.2.2.2.1, hc.2.2.2.2.1⟩ hM ⟨callB_of n hc.2.2.2.2.1 (ap_goodK hK) rfl rfl rfl (hc.2.2.2.2.1 _ hK.1.2.1) (hc.2.2.2.2.1 _ hw) hK.2 ⟨hR.1, ?_⟩, hc.2.2.2.2.1 _ hV⟩ hS1 rfl hn hl.1 hst (lv_room hwt) hd ⟨hc.2.2.2.2.2.2.2.2.1, hc.2.2.2.2.2.2.2.2.2⟩
  have h1 := hR.2
  have h2 := hK.1.2.2
  show 8 + (maxL + 11) + 64 * k ≤ _
  omega
theorem ap_callSN {x : ap_X} {g : ap_G} {nL pc q : Nat} {cc : ByteArray} {own : String} {lo : List (Nat × Value)} {st : List Value} {M : ap_Mem} {i k n maxL : Nat} {y : MethodName} {cy : ByteArray} {host : String} {ret : Option FieldType} {As : List Value} {st0 : List Value} {Q : Option Value → ap_Mem → Prop} (hc : ap_Cx x g cc own nL) (hM : ap_Ct (xL x) g y cy maxL ret k As M Q) (hw : va_Nw (.methodLinkNest own i y host) (xS x)) (hK : ap_LK y cy maxL ret n) (hV : Cond.static y ∈ ap_TW) (hR : ap_Rm x (k + 1)) (hn : As.length = n) (hst : st0 = As.reverse ++ st) (hwt : (st.map fun v => v.category).sum ≤ 8) (hd : decode cc pc = .ok (.invokestatic i, 3)) (he : pc + 3 = q)
    (h : ∀ (r : Option Value) (M2 : ap_Mem), Q r M2 → ap_V x g nL q lo (r.toList ++ st) M2) : ap_V x g nL pc lo st0 M := by
  refine ap_runs (av := As) (fun ls H locs hl hP hS => ?_) he h
  have hS1 := ap_PreS (av := As) hc hP hS
  refine va_runSN ⟨hc.1, hc.2.1, hc.2.2.1, hc.2.2.2.1, hc.2.2.2.2.1⟩ hM ⟨va_cnB n hc.2.2.2.2.1 (ap_goodK hK) rfl rfl rfl hw (hc.2.2.2.2.1 _ hK.1.2.1) hK.2 ⟨hR.1, ?_⟩, hc.2.2.2.2.1 _ hV, trivial⟩ hS1 rfl hn hl.1 hst (lv_room hwt) hd ⟨hc.2.2.2.2.2.2.2.2.1, hc.2.2.2.2.2.2.2.2.2⟩
  have h1 := hR.2
  have h2 := hK.1.2.2
  show 8 + (maxL + 11) + 64 * k ≤ _
  omega
/-- what comes back of a call -/
theorem ap_ki {x : ap_X} {g : ap_G} {nL q : Nat} {lo : List (Nat × Value)} {st : List Value} {K : Int32 → ap_Mem → Prop} (h : ∀ (v : Int32) (M2 : ap_Mem), K v M2 → ap_V x g nL q lo (.int v :: st) M2) : ∀ (r : Option Value) (M2 : ap_Mem), ap_Qi K r M2 → ap_V x g nL q lo (r.toList ++ st) M2 := by
  rintro r M2 ⟨v, rfl, hk⟩
  exact h v M2 hk
theorem ap_kl {x : ap_X} {g : ap_G} {nL q : Nat} {lo : List (Nat × Value)} {st : List Value} {K : Int64 → ap_Mem → Prop} (h : ∀ (v : Int64) (M2 : ap_Mem), K v M2 → ap_V x g nL q lo (.long v :: st) M2) : ∀ (r : Option Value) (M2 : ap_Mem), ap_Ql K r M2 → ap_V x g nL q lo (r.toList ++ st) M2 := by
  rintro r M2 ⟨v, rfl, hk⟩
  exact h v M2 hk
theorem ap_kv {x : ap_X} {g : ap_G} {nL q : Nat} {lo : List (Nat × Value)} {st : List Value} {K : ap_Mem → Prop} (h : ∀ (M2 : ap_Mem), K M2 → ap_V x g nL q lo st M2) : ∀ (r : Option Value) (M2 : ap_Mem), ap_Qv K r M2 → ap_V x g nL q lo (r.toList ++ st) M2 := by
  rintro r M2 ⟨rfl, hk⟩
  exact h M2 hk
