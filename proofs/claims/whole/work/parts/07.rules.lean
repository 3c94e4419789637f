section JR1
variable {g : jG} {μ : jM} {d : Nat} {hs : jH} {P : jO → jH → Prop} {pc : Nat} {lv : List (Nat × Value)} {st : List Value} {h : jH}
theorem jr_iconst {n : Int} {v : Int32} (hdg : decode μ.2.1 pc = .ok (.iconst n, 1)) (hv : Int32.ofInt n = v) (k : J g μ d hs P (pc + 1) lv (.int v :: st) h) : J g μ d hs P pc lv (st) h :=
  fun hg p e R s m args below meth c B H ls locs hR hl hL hf => lv_iconst B.1 B.2.1 hdg hv (k hg p e R s m args below meth c B H ls locs hR hl hL hf)
theorem jr_bipush {n : Int} {v : Int32} (hdg : decode μ.2.1 pc = .ok (.bipush n, 2)) (hv : (Int8.ofInt n).toInt32 = v) (k : J g μ d hs P (pc + 2) lv (.int v :: st) h) : J g μ d hs P pc lv (st) h :=
  fun hg p e R s m args below meth c B H ls locs hR hl hL hf => lv_bipush B.1 B.2.1 hdg hv (k hg p e R s m args below meth c B H ls locs hR hl hL hf)
theorem jr_sipush {n : Int} {v : Int32} (hdg : decode μ.2.1 pc = .ok (.sipush n, 3)) (hv : (Int16.ofInt n).toInt32 = v) (k : J g μ d hs P (pc + 3) lv (.int v :: st) h) : J g μ d hs P pc lv (st) h :=
  fun hg p e R s m args below meth c B H ls locs hR hl hL hf => lv_sipush B.1 B.2.1 hdg hv (k hg p e R s m args below meth c B H ls locs hR hl hL hf)
theorem jr_lconst {n : Fin 2} {v : Int64} (hdg : decode μ.2.1 pc = .ok (.lconst n, 1)) (hv : Int64.ofNat (n : Nat) = v) (k : J g μ d hs P (pc + 1) lv (.long v :: st) h) : J g μ d hs P pc lv (st) h :=
  fun hg p e R s m args below meth c B H ls locs hR hl hL hf => lv_lconst B.1 B.2.1 hdg hv (k hg p e R s m args below meth c B H ls locs hR hl hL hf)
theorem jr_null (hdg : decode μ.2.1 pc = .ok (.aconst_null, 1)) (k : J g μ d hs P (pc + 1) lv (.null :: st) h) : J g μ d hs P pc lv (st) h :=
  fun hg p e R s m args below meth c B H ls locs hR hl hL hf => lv_null B.1 B.2.1 hdg (k hg p e R s m args below meth c B H ls locs hR hl hL hf)
theorem jr_iload_n {n : Fin 4} {i : Nat} {x : Int32} (q : Nat) (hdg : decode μ.2.1 pc = .ok (.iload_n n, 1)) (hi : (n : Nat) = i) (hq : lv[q]? = some (i, .int x)) (k : J g μ d hs P (pc + 1) lv (.int x :: st) h) : J g μ d hs P pc lv (st) h :=
  fun hg p e R s m args below meth c B H ls locs hR hl hL hf => lv_iload_n B.1 B.2.1 hdg hi (lv_at hl q hq) (k hg p e R s m args below meth c B H ls locs hR hl hL hf)
theorem jr_iload {i : Nat} {x : Int32} (q : Nat) (hdg : decode μ.2.1 pc = .ok (.iload i, 2)) (hq : lv[q]? = some (i, .int x)) (k : J g μ d hs P (pc + 2) lv (.int x :: st) h) : J g μ d hs P pc lv (st) h :=
  fun hg p e R s m args below meth c B H ls locs hR hl hL hf => lv_iload B.1 B.2.1 hdg (lv_at hl q hq) (k hg p e R s m args below meth c B H ls locs hR hl hL hf)
theorem jr_lload_n {n : Fin 4} {i : Nat} {x : Int64} (q : Nat) (hdg : decode μ.2.1 pc = .ok (.lload_n n, 1)) (hi : (n : Nat) = i) (hq : lv[q]? = some (i, .long x)) (k : J g μ d hs P (pc + 1) lv (.long x :: st) h) : J g μ d hs P pc lv (st) h :=
  fun hg p e R s m args below meth c B H ls locs hR hl hL hf => lv_lload_n B.1 B.2.1 hdg hi (lv_at hl q hq) (k hg p e R s m args below meth c B H ls locs hR hl hL hf)
theorem jr_lload {i : Nat} {x : Int64} (q : Nat) (hdg : decode μ.2.1 pc = .ok (.lload i, 2)) (hq : lv[q]? = some (i, .long x)) (k : J g μ d hs P (pc + 2) lv (.long x :: st) h) : J g μ d hs P pc lv (st) h :=
  fun hg p e R s m args below meth c B H ls locs hR hl hL hf => lv_lload B.1 B.2.1 hdg (lv_at hl q hq) (k hg p e R s m args below meth c B H ls locs hR hl hL hf)
theorem jr_aload_n {n : Fin 4} {i : Nat} {x : Nat} (q : Nat) (hdg : decode μ.2.1 pc = .ok (.aload_n n, 1)) (hi : (n : Nat) = i) (hq : lv[q]? = some (i, .ref x)) (k : J g μ d hs P (pc + 1) lv (.ref x :: st) h) : J g μ d hs P pc lv (st) h :=
  fun hg p e R s m args below meth c B H ls locs hR hl hL hf => lv_aload_n B.1 B.2.1 hdg hi (lv_at hl q hq) (k hg p e R s m args below meth c B H ls locs hR hl hL hf)
theorem jr_aload {i : Nat} {x : Nat} (q : Nat) (hdg : decode μ.2.1 pc = .ok (.aload i, 2)) (hq : lv[q]? = some (i, .ref x)) (k : J g μ d hs P (pc + 2) lv (.ref x :: st) h) : J g μ d hs P pc lv (st) h :=
  fun hg p e R s m args below meth c B H ls locs hR hl hL hf => lv_aload B.1 B.2.1 hdg (lv_at hl q hq) (k hg p e R s m args below meth c B H ls locs hR hl hL hf)
theorem jr_istore_n {n : Fin 4} {i : Nat} {x : Int32} {lv' : List (Nat × Value)} (hdg : decode μ.2.1 pc = .ok (.istore_n n, 1)) (hi : (n : Nat) = i) (hn : i < μ.2.2.1) (hlv : (i, Value.int x) :: lv.filter (fun q => !(q.1 == i) && !(q.1 + 1 == i && q.2.category == 2)) = lv') (k : J g μ d hs P (pc + 1) lv' st h) : J g μ d hs P pc lv (.int x :: st) h :=
  fun hg p e R s m args below meth c B H ls locs hR hl hL hf => lv_istore_n B.1 B.2.1 hdg hi hl hn hlv (fun ls' hl' => k hg p e R s m args below meth c B H ls' locs hR hl' hL hf)
theorem jr_istore {i : Nat} {x : Int32} {lv' : List (Nat × Value)} (hdg : decode μ.2.1 pc = .ok (.istore i, 2)) (hn : i < μ.2.2.1) (hlv : (i, Value.int x) :: lv.filter (fun q => !(q.1 == i) && !(q.1 + 1 == i && q.2.category == 2)) = lv') (k : J g μ d hs P (pc + 2) lv' st h) : J g μ d hs P pc lv (.int x :: st) h :=
  fun hg p e R s m args below meth c B H ls locs hR hl hL hf => lv_istore B.1 B.2.1 hdg hl hn hlv (fun ls' hl' => k hg p e R s m args below meth c B H ls' locs hR hl' hL hf)
theorem jr_lstore_n {n : Fin 4} {i : Nat} {x : Int64} {lv' : List (Nat × Value)} (hdg : decode μ.2.1 pc = .ok (.lstore_n n, 1)) (hi : (n : Nat) = i) (hn : i + 1 < μ.2.2.1) (hlv : (i, Value.long x) :: lv.filter (fun q => !(q.1 == i) && (!(q.1 == i + 1) && !(q.1 + 1 == i && q.2.category == 2))) = lv') (k : J g μ d hs P (pc + 1) lv' st h) : J g μ d hs P pc lv (.long x :: st) h :=
  fun hg p e R s m args below meth c B H ls locs hR hl hL hf => lv_lstore_n B.1 B.2.1 hdg hi hl hn hlv (fun ls' hl' => k hg p e R s m args below meth c B H ls' locs hR hl' hL hf)
theorem jr_lstore {i : Nat} {x : Int64} {lv' : List (Nat × Value)} (hdg : decode μ.2.1 pc = .ok (.lstore i, 2)) (hn : i + 1 < μ.2.2.1) (hlv : (i, Value.long x) :: lv.filter (fun q => !(q.1 == i) && (!(q.1 == i + 1) && !(q.1 + 1 == i && q.2.category == 2))) = lv') (k : J g μ d hs P (pc + 2) lv' st h) : J g μ d hs P pc lv (.long x :: st) h :=
  fun hg p e R s m args below meth c B H ls locs hR hl hL hf => lv_lstore B.1 B.2.1 hdg hl hn hlv (fun ls' hl' => k hg p e R s m args below meth c B H ls' locs hR hl' hL hf)
theorem jr_astore_n {n : Fin 4} {i : Nat} {x : Nat} {lv' : List (Nat × Value)} (hdg : decode μ.2.1 pc = .ok (.astore_n n, 1)) (hi : (n : Nat) = i) (hn : i < μ.2.2.1) (hlv : (i, Value.ref x) :: lv.filter (fun q => !(q.1 == i) && !(q.1 + 1 == i && q.2.category == 2)) = lv') (k : J g μ d hs P (pc + 1) lv' st h) : J g μ d hs P pc lv (.ref x :: st) h :=
  fun hg p e R s m args below meth c B H ls locs hR hl hL hf => lv_astore_n B.1 B.2.1 hdg hi hl hn hlv (fun ls' hl' => k hg p e R s m args below meth c B H ls' locs hR hl' hL hf)
theorem jr_astore {i : Nat} {x : Nat} {lv' : List (Nat × Value)} (hdg : decode μ.2.1 pc = .ok (.astore i, 2)) (hn : i < μ.2.2.1) (hlv : (i, Value.ref x) :: lv.filter (fun q => !(q.1 == i) && !(q.1 + 1 == i && q.2.category == 2)) = lv') (k : J g μ d hs P (pc + 2) lv' st h) : J g μ d hs P pc lv (.ref x :: st) h :=
  fun hg p e R s m args below meth c B H ls locs hR hl hL hf => lv_astore B.1 B.2.1 hdg hl hn hlv (fun ls' hl' => k hg p e R s m args below meth c B H ls' locs hR hl' hL hf)
theorem jr_iinc {i : Nat} {n : Int} {x v : Int32} {lv' : List (Nat × Value)} (q : Nat) (hdg : decode μ.2.1 pc = .ok (.iinc i n, 3)) (hq : lv[q]? = some (i, .int x)) (hv : x + Int32.ofInt n = v) (hn : i < μ.2.2.1) (hlv : (i, Value.int v) :: lv.filter (fun q => !(q.1 == i) && !(q.1 + 1 == i && q.2.category == 2)) = lv') (k : J g μ d hs P (pc + 3) lv' st h) : J g μ d hs P pc lv st h :=
  fun hg p e R s m args below meth c B H ls locs hR hl hL hf => lv_iinc B.1 B.2.1 hdg hl hq hv hn hlv (fun ls' hl' => k hg p e R s m args below meth c B H ls' locs hR hl' hL hf)
theorem jr_iadd {x y : Int32} (hdg : decode μ.2.1 pc = .ok (.iadd, 1)) (k : J g μ d hs P (pc + 1) lv (.int (x + y) :: st) h) : J g μ d hs P pc lv (.int y :: .int x :: st) h :=
  fun hg p e R s m args below meth c B H ls locs hR hl hL hf => lv_iadd B.1 B.2.1 hdg (k hg p e R s m args below meth c B H ls locs hR hl hL hf)
theorem jr_isub {x y : Int32} (hdg : decode μ.2.1 pc = .ok (.isub, 1)) (k : J g μ d hs P (pc + 1) lv (.int (x - y) :: st) h) : J g μ d hs P pc lv (.int y :: .int x :: st) h :=
  fun hg p e R s m args below meth c B H ls locs hR hl hL hf => lv_isub B.1 B.2.1 hdg (k hg p e R s m args below meth c B H ls locs hR hl hL hf)
theorem jr_imul {x y : Int32} (hdg : decode μ.2.1 pc = .ok (.imul, 1)) (k : J g μ d hs P (pc + 1) lv (.int (x * y) :: st) h) : J g μ d hs P pc lv (.int y :: .int x :: st) h :=
  fun hg p e R s m args below meth c B H ls locs hR hl hL hf => lv_imul B.1 B.2.1 hdg (k hg p e R s m args below meth c B H ls locs hR hl hL hf)
theorem jr_iand {x y : Int32} (hdg : decode μ.2.1 pc = .ok (.iand, 1)) (k : J g μ d hs P (pc + 1) lv (.int (x &&& y) :: st) h) : J g μ d hs P pc lv (.int y :: .int x :: st) h :=
  fun hg p e R s m args below meth c B H ls locs hR hl hL hf => lv_iand B.1 B.2.1 hdg (k hg p e R s m args below meth c B H ls locs hR hl hL hf)
theorem jr_ior {x y : Int32} (hdg : decode μ.2.1 pc = .ok (.ior, 1)) (k : J g μ d hs P (pc + 1) lv (.int (x ||| y) :: st) h) : J g μ d hs P pc lv (.int y :: .int x :: st) h :=
  fun hg p e R s m args below meth c B H ls locs hR hl hL hf => lv_ior B.1 B.2.1 hdg (k hg p e R s m args below meth c B H ls locs hR hl hL hf)
theorem jr_ixor {x y : Int32} (hdg : decode μ.2.1 pc = .ok (.ixor, 1)) (k : J g μ d hs P (pc + 1) lv (.int (x ^^^ y) :: st) h) : J g μ d hs P pc lv (.int y :: .int x :: st) h :=
  fun hg p e R s m args below meth c B H ls locs hR hl hL hf => lv_ixor B.1 B.2.1 hdg (k hg p e R s m args below meth c B H ls locs hR hl hL hf)
theorem jr_ladd {x y : Int64} (hdg : decode μ.2.1 pc = .ok (.ladd, 1)) (k : J g μ d hs P (pc + 1) lv (.long (x + y) :: st) h) : J g μ d hs P pc lv (.long y :: .long x :: st) h :=
  fun hg p e R s m args below meth c B H ls locs hR hl hL hf => lv_ladd B.1 B.2.1 hdg (k hg p e R s m args below meth c B H ls locs hR hl hL hf)
theorem jr_lsub {x y : Int64} (hdg : decode μ.2.1 pc = .ok (.lsub, 1)) (k : J g μ d hs P (pc + 1) lv (.long (x - y) :: st) h) : J g μ d hs P pc lv (.long y :: .long x :: st) h :=
  fun hg p e R s m args below meth c B H ls locs hR hl hL hf => lv_lsub B.1 B.2.1 hdg (k hg p e R s m args below meth c B H ls locs hR hl hL hf)
theorem jr_lmul {x y : Int64} (hdg : decode μ.2.1 pc = .ok (.lmul, 1)) (k : J g μ d hs P (pc + 1) lv (.long (x * y) :: st) h) : J g μ d hs P pc lv (.long y :: .long x :: st) h :=
  fun hg p e R s m args below meth c B H ls locs hR hl hL hf => lv_lmul B.1 B.2.1 hdg (k hg p e R s m args below meth c B H ls locs hR hl hL hf)
theorem jr_land {x y : Int64} (hdg : decode μ.2.1 pc = .ok (.land, 1)) (k : J g μ d hs P (pc + 1) lv (.long (x &&& y) :: st) h) : J g μ d hs P pc lv (.long y :: .long x :: st) h :=
  fun hg p e R s m args below meth c B H ls locs hR hl hL hf => lv_land B.1 B.2.1 hdg (k hg p e R s m args below meth c B H ls locs hR hl hL hf)
theorem jr_lor {x y : Int64} (hdg : decode μ.2.1 pc = .ok (.lor, 1)) (k : J g μ d hs P (pc + 1) lv (.long (x ||| y) :: st) h) : J g μ d hs P pc lv (.long y :: .long x :: st) h :=
  fun hg p e R s m args below meth c B H ls locs hR hl hL hf => lv_lor B.1 B.2.1 hdg (k hg p e R s m args below meth c B H ls locs hR hl hL hf)
theorem jr_lxor {x y : Int64} (hdg : decode μ.2.1 pc = .ok (.lxor, 1)) (k : J g μ d hs P (pc + 1) lv (.long (x ^^^ y) :: st) h) : J g μ d hs P pc lv (.long y :: .long x :: st) h :=
  fun hg p e R s m args below meth c B H ls locs hR hl hL hf => lv_lxor B.1 B.2.1 hdg (k hg p e R s m args below meth c B H ls locs hR hl hL hf)
theorem jr_ishl {x y : Int32} (hdg : decode μ.2.1 pc = .ok (.ishl, 1)) (k : J g μ d hs P (pc + 1) lv (.int (x <<< (y &&& 31)) :: st) h) : J g μ d hs P pc lv (.int y :: .int x :: st) h :=
  fun hg p e R s m args below meth c B H ls locs hR hl hL hf => lv_ishl B.1 B.2.1 hdg (k hg p e R s m args below meth c B H ls locs hR hl hL hf)
theorem jr_ishr {x y : Int32} (hdg : decode μ.2.1 pc = .ok (.ishr, 1)) (k : J g μ d hs P (pc + 1) lv (.int (x >>> (y &&& 31)) :: st) h) : J g μ d hs P pc lv (.int y :: .int x :: st) h :=
  fun hg p e R s m args below meth c B H ls locs hR hl hL hf => lv_ishr B.1 B.2.1 hdg (k hg p e R s m args below meth c B H ls locs hR hl hL hf)
theorem jr_idiv {x y : Int32} (hdg : decode μ.2.1 pc = .ok (.idiv, 1)) (hne : ¬ y = 0) (k : J g μ d hs P (pc + 1) lv (.int (x / y) :: st) h) : J g μ d hs P pc lv (.int y :: .int x :: st) h :=
  fun hg p e R s m args below meth c B H ls locs hR hl hL hf => lv_idiv B.1 B.2.1 hdg hne (k hg p e R s m args below meth c B H ls locs hR hl hL hf)
theorem jr_irem {x y : Int32} (hdg : decode μ.2.1 pc = .ok (.irem, 1)) (hne : ¬ y = 0) (k : J g μ d hs P (pc + 1) lv (.int (x - x / y * y) :: st) h) : J g μ d hs P pc lv (.int y :: .int x :: st) h :=
  fun hg p e R s m args below meth c B H ls locs hR hl hL hf => lv_irem B.1 B.2.1 hdg hne (k hg p e R s m args below meth c B H ls locs hR hl hL hf)
theorem jr_ldiv {x y : Int64} (hdg : decode μ.2.1 pc = .ok (.ldiv, 1)) (hne : ¬ y = 0) (k : J g μ d hs P (pc + 1) lv (.long (x / y) :: st) h) : J g μ d hs P pc lv (.long y :: .long x :: st) h :=
  fun hg p e R s m args below meth c B H ls locs hR hl hL hf => lv_ldiv B.1 B.2.1 hdg hne (k hg p e R s m args below meth c B H ls locs hR hl hL hf)
theorem jr_lrem {x y : Int64} (hdg : decode μ.2.1 pc = .ok (.lrem, 1)) (hne : ¬ y = 0) (k : J g μ d hs P (pc + 1) lv (.long (x - x / y * y) :: st) h) : J g μ d hs P pc lv (.long y :: .long x :: st) h :=
  fun hg p e R s m args below meth c B H ls locs hR hl hL hf => lv_lrem B.1 B.2.1 hdg hne (k hg p e R s m args below meth c B H ls locs hR hl hL hf)
theorem jr_ineg {x : Int32} (hdg : decode μ.2.1 pc = .ok (.ineg, 1)) (k : J g μ d hs P (pc + 1) lv (.int (-x) :: st) h) : J g μ d hs P pc lv (.int x :: st) h :=
  fun hg p e R s m args below meth c B H ls locs hR hl hL hf => lv_ineg B.1 B.2.1 hdg (k hg p e R s m args below meth c B H ls locs hR hl hL hf)
theorem jr_i2l {x : Int32} (hdg : decode μ.2.1 pc = .ok (.i2l, 1)) (k : J g μ d hs P (pc + 1) lv (.long (x.toInt64) :: st) h) : J g μ d hs P pc lv (.int x :: st) h :=
  fun hg p e R s m args below meth c B H ls locs hR hl hL hf => lv_i2l B.1 B.2.1 hdg rfl (k hg p e R s m args below meth c B H ls locs hR hl hL hf)
theorem jr_l2i {x : Int64} (hdg : decode μ.2.1 pc = .ok (.l2i, 1)) (k : J g μ d hs P (pc + 1) lv (.int (x.toInt32) :: st) h) : J g μ d hs P pc lv (.long x :: st) h :=
  fun hg p e R s m args below meth c B H ls locs hR hl hL hf => lv_l2i B.1 B.2.1 hdg rfl (k hg p e R s m args below meth c B H ls locs hR hl hL hf)
theorem jr_i2b {x : Int32} (hdg : decode μ.2.1 pc = .ok (.i2b, 1)) (k : J g μ d hs P (pc + 1) lv (.int (x.toInt8.toInt32) :: st) h) : J g μ d hs P pc lv (.int x :: st) h :=
  fun hg p e R s m args below meth c B H ls locs hR hl hL hf => lv_i2b B.1 B.2.1 hdg rfl (k hg p e R s m args below meth c B H ls locs hR hl hL hf)
theorem jr_i2s {x : Int32} (hdg : decode μ.2.1 pc = .ok (.i2s, 1)) (k : J g μ d hs P (pc + 1) lv (.int (x.toInt16.toInt32) :: st) h) : J g μ d hs P pc lv (.int x :: st) h :=
  fun hg p e R s m args below meth c B H ls locs hR hl hL hf => lv_i2s B.1 B.2.1 hdg rfl (k hg p e R s m args below meth c B H ls locs hR hl hL hf)
theorem jr_i2c {x : Int32} (hdg : decode μ.2.1 pc = .ok (.i2c, 1)) (k : J g μ d hs P (pc + 1) lv (.int ((x.toUInt32 % 65536).toInt32) :: st) h) : J g μ d hs P pc lv (.int x :: st) h :=
  fun hg p e R s m args below meth c B H ls locs hR hl hL hf => lv_i2c B.1 B.2.1 hdg rfl (k hg p e R s m args below meth c B H ls locs hR hl hL hf)
theorem jr_iushr {x y : Int32} (hdg : decode μ.2.1 pc = .ok (.iushr, 1)) (k : J g μ d hs P (pc + 1) lv (.int ((x.toUInt32 >>> (y.toUInt32 &&& Int32.toUInt32 31)).toInt32) :: st) h) : J g μ d hs P pc lv (.int y :: .int x :: st) h :=
  fun hg p e R s m args below meth c B H ls locs hR hl hL hf => lv_iushr B.1 B.2.1 hdg rfl (k hg p e R s m args below meth c B H ls locs hR hl hL hf)
theorem jr_lushr {x : Int64} {y : Int32} (hdg : decode μ.2.1 pc = .ok (.lushr, 1)) (k : J g μ d hs P (pc + 1) lv (.long ((x.toUInt64 >>> (y.toInt64.toUInt64 &&& Int64.toUInt64 63)).toInt64) :: st) h) : J g μ d hs P pc lv (.int y :: .long x :: st) h :=
  fun hg p e R s m args below meth c B H ls locs hR hl hL hf => lv_lushr B.1 B.2.1 hdg rfl (k hg p e R s m args below meth c B H ls locs hR hl hL hf)
theorem jr_lshl {x : Int64} {y : Int32} (hdg : decode μ.2.1 pc = .ok (.lshl, 1)) (k : J g μ d hs P (pc + 1) lv (.long (x <<< (y.toInt64 &&& 63)) :: st) h) : J g μ d hs P pc lv (.int y :: .long x :: st) h :=
  fun hg p e R s m args below meth c B H ls locs hR hl hL hf => lv_lshl B.1 B.2.1 hdg rfl (k hg p e R s m args below meth c B H ls locs hR hl hL hf)
theorem jr_lshr {x : Int64} {y : Int32} (hdg : decode μ.2.1 pc = .ok (.lshr, 1)) (k : J g μ d hs P (pc + 1) lv (.long (x >>> (y.toInt64 &&& 63)) :: st) h) : J g μ d hs P pc lv (.int y :: .long x :: st) h :=
  fun hg p e R s m args below meth c B H ls locs hR hl hL hf => lv_lshr B.1 B.2.1 hdg rfl (k hg p e R s m args below meth c B H ls locs hR hl hL hf)
theorem jr_lcmp {x y : Int64} (hdg : decode μ.2.1 pc = .ok (.lcmp, 1)) (k : J g μ d hs P (pc + 1) lv (.int (lg_cmp x y) :: st) h) : J g μ d hs P pc lv (.long y :: .long x :: st) h :=
  fun hg p e R s m args below meth c B H ls locs hR hl hL hf => W.lcmp B.1 B.2.1 hdg (k hg p e R s m args below meth c B H ls locs hR hl hL hf)
theorem jr_dup {v : Value} (hdg : decode μ.2.1 pc = .ok (.dup, 1)) (hv : v.category = 1) (k : J g μ d hs P (pc + 1) lv (v :: v :: st) h) : J g μ d hs P pc lv (v :: st) h :=
  fun hg p e R s m args below meth c B H ls locs hR hl hL hf => lv_dup B.1 B.2.1 hdg hv (k hg p e R s m args below meth c B H ls locs hR hl hL hf)
theorem jr_pop {v : Value} (hdg : decode μ.2.1 pc = .ok (.pop, 1)) (hv : v.category = 1) (k : J g μ d hs P (pc + 1) lv (st) h) : J g μ d hs P pc lv (v :: st) h :=
  fun hg p e R s m args below meth c B H ls locs hR hl hL hf => lv_pop B.1 B.2.1 hdg hv (k hg p e R s m args below meth c B H ls locs hR hl hL hf)
theorem jr_pop2 {v : Value} (hdg : decode μ.2.1 pc = .ok (.pop2, 1)) (hv : v.category = 2) (k : J g μ d hs P (pc + 1) lv (st) h) : J g μ d hs P pc lv (v :: st) h :=
  fun hg p e R s m args below meth c B H ls locs hR hl hL hf => lv_pop2_2 B.1 B.2.1 hdg hv (k hg p e R s m args below meth c B H ls locs hR hl hL hf)
theorem jr_dup2 {v w : Value} (hdg : decode μ.2.1 pc = .ok (.dup2, 1)) (hv : v.category = 1) (hw : w.category = 1) (k : J g μ d hs P (pc + 1) lv (v :: w :: v :: w :: st) h) : J g μ d hs P pc lv (v :: w :: st) h :=
  fun hg p e R s m args below meth c B H ls locs hR hl hL hf => lv_dup2_11 B.1 B.2.1 hdg hv hw (k hg p e R s m args below meth c B H ls locs hR hl hL hf)
theorem jr_dup2l {v : Value} (hdg : decode μ.2.1 pc = .ok (.dup2, 1)) (hv : v.category = 2) (k : J g μ d hs P (pc + 1) lv (v :: v :: st) h) : J g μ d hs P pc lv (v :: st) h :=
  fun hg p e R s m args below meth c B H ls locs hR hl hL hf => lv_dup2_2 B.1 B.2.1 hdg hv (k hg p e R s m args below meth c B H ls locs hR hl hL hf)
theorem jr_if_eq {x : Int32} {off : Int} {tgt : Nat} (hdg : decode μ.2.1 pc = .ok (.ifCond .eq off, 3)) (ht : (pc : Int) + off = (tgt : Int)) (kt : x = 0 → J g μ d hs P tgt lv st h) (kf : ¬ x = 0 → J g μ d hs P (pc + 3) lv st h) : J g μ d hs P pc lv (.int x :: st) h :=
  fun hg p e R s m args below meth c B H ls locs hR hl hL hf => lv_if_eq B.1 B.2.1 hdg ht (fun c9 => kt c9 hg p e R s m args below meth c B H ls locs hR hl hL hf) (fun c9 => kf c9 hg p e R s m args below meth c B H ls locs hR hl hL hf)
theorem jr_if_ne {x : Int32} {off : Int} {tgt : Nat} (hdg : decode μ.2.1 pc = .ok (.ifCond .ne off, 3)) (ht : (pc : Int) + off = (tgt : Int)) (kt : ¬ x = 0 → J g μ d hs P tgt lv st h) (kf : x = 0 → J g μ d hs P (pc + 3) lv st h) : J g μ d hs P pc lv (.int x :: st) h :=
  fun hg p e R s m args below meth c B H ls locs hR hl hL hf => lv_if_ne B.1 B.2.1 hdg ht (fun c9 => kt c9 hg p e R s m args below meth c B H ls locs hR hl hL hf) (fun c9 => kf c9 hg p e R s m args below meth c B H ls locs hR hl hL hf)
theorem jr_if_lt {x : Int32} {off : Int} {tgt : Nat} (hdg : decode μ.2.1 pc = .ok (.ifCond .lt off, 3)) (ht : (pc : Int) + off = (tgt : Int)) (kt : x < 0 → J g μ d hs P tgt lv st h) (kf : ¬ x < 0 → J g μ d hs P (pc + 3) lv st h) : J g μ d hs P pc lv (.int x :: st) h :=
  fun hg p e R s m args below meth c B H ls locs hR hl hL hf => lv_if_lt B.1 B.2.1 hdg ht (fun c9 => kt c9 hg p e R s m args below meth c B H ls locs hR hl hL hf) (fun c9 => kf c9 hg p e R s m args below meth c B H ls locs hR hl hL hf)
theorem jr_if_ge {x : Int32} {off : Int} {tgt : Nat} (hdg : decode μ.2.1 pc = .ok (.ifCond .ge off, 3)) (ht : (pc : Int) + off = (tgt : Int)) (kt : ¬ x < 0 → J g μ d hs P tgt lv st h) (kf : x < 0 → J g μ d hs P (pc + 3) lv st h) : J g μ d hs P pc lv (.int x :: st) h :=
  fun hg p e R s m args below meth c B H ls locs hR hl hL hf => lv_if_ge B.1 B.2.1 hdg ht (fun c9 => kt (Int32.not_lt.mpr c9) hg p e R s m args below meth c B H ls locs hR hl hL hf) (fun c9 => kf (Int32.not_le.mp c9) hg p e R s m args below meth c B H ls locs hR hl hL hf)
theorem jr_if_gt {x : Int32} {off : Int} {tgt : Nat} (hdg : decode μ.2.1 pc = .ok (.ifCond .gt off, 3)) (ht : (pc : Int) + off = (tgt : Int)) (kt : 0 < x → J g μ d hs P tgt lv st h) (kf : ¬ 0 < x → J g μ d hs P (pc + 3) lv st h) : J g μ d hs P pc lv (.int x :: st) h :=
  fun hg p e R s m args below meth c B H ls locs hR hl hL hf => lv_if_gt B.1 B.2.1 hdg ht (fun c9 => kt c9 hg p e R s m args below meth c B H ls locs hR hl hL hf) (fun c9 => kf c9 hg p e R s m args below meth c B H ls locs hR hl hL hf)
theorem jr_if_le {x : Int32} {off : Int} {tgt : Nat} (hdg : decode μ.2.1 pc = .ok (.ifCond .le off, 3)) (ht : (pc : Int) + off = (tgt : Int)) (kt : ¬ 0 < x → J g μ d hs P tgt lv st h) (kf : 0 < x → J g μ d hs P (pc + 3) lv st h) : J g μ d hs P pc lv (.int x :: st) h :=
  fun hg p e R s m args below meth c B H ls locs hR hl hL hf => lv_if_le B.1 B.2.1 hdg ht (fun c9 => kt (Int32.not_lt.mpr c9) hg p e R s m args below meth c B H ls locs hR hl hL hf) (fun c9 => kf (Int32.not_le.mp c9) hg p e R s m args below meth c B H ls locs hR hl hL hf)
theorem jr_icmp_eq {x y : Int32} {off : Int} {tgt : Nat} (hdg : decode μ.2.1 pc = .ok (.if_icmp .eq off, 3)) (ht : (pc : Int) + off = (tgt : Int)) (kt : x = y → J g μ d hs P tgt lv st h) (kf : ¬ x = y → J g μ d hs P (pc + 3) lv st h) : J g μ d hs P pc lv (.int y :: .int x :: st) h :=
  fun hg p e R s m args below meth c B H ls locs hR hl hL hf => lv_icmp_eq B.1 B.2.1 hdg ht (fun c9 => kt c9 hg p e R s m args below meth c B H ls locs hR hl hL hf) (fun c9 => kf c9 hg p e R s m args below meth c B H ls locs hR hl hL hf)
theorem jr_icmp_ne {x y : Int32} {off : Int} {tgt : Nat} (hdg : decode μ.2.1 pc = .ok (.if_icmp .ne off, 3)) (ht : (pc : Int) + off = (tgt : Int)) (kt : ¬ x = y → J g μ d hs P tgt lv st h) (kf : x = y → J g μ d hs P (pc + 3) lv st h) : J g μ d hs P pc lv (.int y :: .int x :: st) h :=
  fun hg p e R s m args below meth c B H ls locs hR hl hL hf => lv_icmp_ne B.1 B.2.1 hdg ht (fun c9 => kt c9 hg p e R s m args below meth c B H ls locs hR hl hL hf) (fun c9 => kf c9 hg p e R s m args below meth c B H ls locs hR hl hL hf)
theorem jr_icmp_lt {x y : Int32} {off : Int} {tgt : Nat} (hdg : decode μ.2.1 pc = .ok (.if_icmp .lt off, 3)) (ht : (pc : Int) + off = (tgt : Int)) (kt : x < y → J g μ d hs P tgt lv st h) (kf : ¬ x < y → J g μ d hs P (pc + 3) lv st h) : J g μ d hs P pc lv (.int y :: .int x :: st) h :=
  fun hg p e R s m args below meth c B H ls locs hR hl hL hf => lv_icmp_lt B.1 B.2.1 hdg ht (fun c9 => kt c9 hg p e R s m args below meth c B H ls locs hR hl hL hf) (fun c9 => kf c9 hg p e R s m args below meth c B H ls locs hR hl hL hf)
theorem jr_icmp_ge {x y : Int32} {off : Int} {tgt : Nat} (hdg : decode μ.2.1 pc = .ok (.if_icmp .ge off, 3)) (ht : (pc : Int) + off = (tgt : Int)) (kt : ¬ x < y → J g μ d hs P tgt lv st h) (kf : x < y → J g μ d hs P (pc + 3) lv st h) : J g μ d hs P pc lv (.int y :: .int x :: st) h :=
  fun hg p e R s m args below meth c B H ls locs hR hl hL hf => lv_icmp_ge B.1 B.2.1 hdg ht (fun c9 => kt (Int32.not_lt.mpr c9) hg p e R s m args below meth c B H ls locs hR hl hL hf) (fun c9 => kf (Int32.not_le.mp c9) hg p e R s m args below meth c B H ls locs hR hl hL hf)
theorem jr_icmp_gt {x y : Int32} {off : Int} {tgt : Nat} (hdg : decode μ.2.1 pc = .ok (.if_icmp .gt off, 3)) (ht : (pc : Int) + off = (tgt : Int)) (kt : y < x → J g μ d hs P tgt lv st h) (kf : ¬ y < x → J g μ d hs P (pc + 3) lv st h) : J g μ d hs P pc lv (.int y :: .int x :: st) h :=
  fun hg p e R s m args below meth c B H ls locs hR hl hL hf => lv_icmp_gt B.1 B.2.1 hdg ht (fun c9 => kt c9 hg p e R s m args below meth c B H ls locs hR hl hL hf) (fun c9 => kf c9 hg p e R s m args below meth c B H ls locs hR hl hL hf)
theorem jr_icmp_le {x y : Int32} {off : Int} {tgt : Nat} (hdg : decode μ.2.1 pc = .ok (.if_icmp .le off, 3)) (ht : (pc : Int) + off = (tgt : Int)) (kt : ¬ y < x → J g μ d hs P tgt lv st h) (kf : y < x → J g μ d hs P (pc + 3) lv st h) : J g μ d hs P pc lv (.int y :: .int x :: st) h :=
  fun hg p e R s m args below meth c B H ls locs hR hl hL hf => lv_icmp_le B.1 B.2.1 hdg ht (fun c9 => kt (Int32.not_lt.mpr c9) hg p e R s m args below meth c B H ls locs hR hl hL hf) (fun c9 => kf (Int32.not_le.mp c9) hg p e R s m args below meth c B H ls locs hR hl hL hf)
theorem j_cmp_lt (x y : Int64) : lg_cmp x y < 0 ↔ x < y := by
  unfold lg_cmp
  by_cases h1 : y < x
  · rw [if_pos h1]
    exact ⟨fun h => absurd h (by decide), fun h => absurd h1 (Int64.not_lt.mpr (Int64.le_of_lt h))⟩
  · by_cases h2 : x = y
    · subst h2
      rw [if_neg h1, if_pos rfl]
      exact ⟨fun h => absurd h (by decide), fun h => absurd h h1⟩
    · rw [if_neg h1, if_neg h2]
      exact ⟨fun _ => Int64.lt_of_le_of_ne (Int64.not_lt.mp h1) h2, fun _ => by decide⟩
theorem j_cmp_gt (x y : Int64) : 0 < lg_cmp x y ↔ y < x := by
  unfold lg_cmp
  by_cases h1 : y < x
  · rw [if_pos h1]
    exact ⟨fun _ => h1, fun _ => by decide⟩
  · by_cases h2 : x = y
    · rw [if_neg h1, if_pos h2]
      exact ⟨fun h => absurd h (by decide), fun h => absurd h h1⟩
    · rw [if_neg h1, if_neg h2]
      exact ⟨fun h => absurd h (by decide), fun h => absurd h h1⟩
theorem j_cmp_eq (x y : Int64) : lg_cmp x y = 0 ↔ x = y := by
  unfold lg_cmp
  by_cases h1 : y < x
  · rw [if_pos h1]
    exact ⟨fun h => absurd h (by decide), fun h => absurd h1 (by rw [h]; exact Int64.lt_irrefl)⟩
  · by_cases h2 : x = y
    · rw [if_neg h1, if_pos h2]
      exact ⟨fun _ => h2, fun _ => rfl⟩
    · rw [if_neg h1, if_neg h2]
      exact ⟨fun h => absurd h (by decide), fun h => absurd h h2⟩
theorem jr_lcmp_eq {x y : Int64} {off : Int} {tgt : Nat} (hdg : decode μ.2.1 pc = .ok (.lcmp, 1)) (hd2 : decode μ.2.1 (pc + 1) = .ok (.ifCond .eq off, 3)) (ht : (pc : Int) + 1 + off = (tgt : Int)) (kt : x = y → J g μ d hs P tgt lv st h) (kf : ¬ x = y → J g μ d hs P (pc + 4) lv st h) : J g μ d hs P pc lv (.long y :: .long x :: st) h :=
  jr_lcmp hdg (jr_if_eq hd2 (by omega) (fun c9 => kt ((j_cmp_eq x y).mp c9)) (fun c9 => kf (fun z => c9 ((j_cmp_eq x y).mpr z))))
theorem jr_lcmp_ne {x y : Int64} {off : Int} {tgt : Nat} (hdg : decode μ.2.1 pc = .ok (.lcmp, 1)) (hd2 : decode μ.2.1 (pc + 1) = .ok (.ifCond .ne off, 3)) (ht : (pc : Int) + 1 + off = (tgt : Int)) (kt : ¬ x = y → J g μ d hs P tgt lv st h) (kf : x = y → J g μ d hs P (pc + 4) lv st h) : J g μ d hs P pc lv (.long y :: .long x :: st) h :=
  jr_lcmp hdg (jr_if_ne hd2 (by omega) (fun c9 => kt (fun z => c9 ((j_cmp_eq x y).mpr z))) (fun c9 => kf ((j_cmp_eq x y).mp c9)))
theorem jr_lcmp_lt {x y : Int64} {off : Int} {tgt : Nat} (hdg : decode μ.2.1 pc = .ok (.lcmp, 1)) (hd2 : decode μ.2.1 (pc + 1) = .ok (.ifCond .lt off, 3)) (ht : (pc : Int) + 1 + off = (tgt : Int)) (kt : x < y → J g μ d hs P tgt lv st h) (kf : ¬ x < y → J g μ d hs P (pc + 4) lv st h) : J g μ d hs P pc lv (.long y :: .long x :: st) h :=
  jr_lcmp hdg (jr_if_lt hd2 (by omega) (fun c9 => kt ((j_cmp_lt x y).mp c9)) (fun c9 => kf (fun z => c9 ((j_cmp_lt x y).mpr z))))
theorem jr_lcmp_ge {x y : Int64} {off : Int} {tgt : Nat} (hdg : decode μ.2.1 pc = .ok (.lcmp, 1)) (hd2 : decode μ.2.1 (pc + 1) = .ok (.ifCond .ge off, 3)) (ht : (pc : Int) + 1 + off = (tgt : Int)) (kt : ¬ x < y → J g μ d hs P tgt lv st h) (kf : x < y → J g μ d hs P (pc + 4) lv st h) : J g μ d hs P pc lv (.long y :: .long x :: st) h :=
  jr_lcmp hdg (jr_if_ge hd2 (by omega) (fun c9 => kt (fun z => c9 ((j_cmp_lt x y).mpr z))) (fun c9 => kf ((j_cmp_lt x y).mp c9)))
theorem jr_lcmp_gt {x y : Int64} {off : Int} {tgt : Nat} (hdg : decode μ.2.1 pc = .ok (.lcmp, 1)) (hd2 : decode μ.2.1 (pc + 1) = .ok (.ifCond .gt off, 3)) (ht : (pc : Int) + 1 + off = (tgt : Int)) (kt : y < x → J g μ d hs P tgt lv st h) (kf : ¬ y < x → J g μ d hs P (pc + 4) lv st h) : J g μ d hs P pc lv (.long y :: .long x :: st) h :=
  jr_lcmp hdg (jr_if_gt hd2 (by omega) (fun c9 => kt ((j_cmp_gt x y).mp c9)) (fun c9 => kf (fun z => c9 ((j_cmp_gt x y).mpr z))))
theorem jr_lcmp_le {x y : Int64} {off : Int} {tgt : Nat} (hdg : decode μ.2.1 pc = .ok (.lcmp, 1)) (hd2 : decode μ.2.1 (pc + 1) = .ok (.ifCond .le off, 3)) (ht : (pc : Int) + 1 + off = (tgt : Int)) (kt : ¬ y < x → J g μ d hs P tgt lv st h) (kf : y < x → J g μ d hs P (pc + 4) lv st h) : J g μ d hs P pc lv (.long y :: .long x :: st) h :=
  jr_lcmp hdg (jr_if_le hd2 (by omega) (fun c9 => kt (fun z => c9 ((j_cmp_gt x y).mpr z))) (fun c9 => kf ((j_cmp_gt x y).mp c9)))
theorem jr_goto {off : Int} {tgt : Nat} (hdg : decode μ.2.1 pc = .ok (.goto off, 3)) (ht : (pc : Int) + off = (tgt : Int)) (k : J g μ d hs P tgt lv st h) : J g μ d hs P pc lv st h :=
  fun hg p e R s m args below meth c B H ls locs hR hl hL hf => lv_goto B.1 B.2.1 hdg ht (k hg p e R s m args below meth c B H ls locs hR hl hL hf)
theorem jr_ifnull {x : Nat} {off : Int} (hdg : decode μ.2.1 pc = .ok (.ifnull off, 3)) (k : J g μ d hs P (pc + 3) lv st h) : J g μ d hs P pc lv (.ref x :: st) h :=
  fun hg p e R s m args below meth c B H ls locs hR hl hL hf => lv_ifnull B.1 B.2.1 hdg (k hg p e R s m args below meth c B H ls locs hR hl hL hf)
theorem jr_ifnonnull {x : Nat} {off : Int} {tgt : Nat} (hdg : decode μ.2.1 pc = .ok (.ifnonnull off, 3)) (ht : (pc : Int) + off = (tgt : Int)) (k : J g μ d hs P tgt lv st h) : J g μ d hs P pc lv (.ref x :: st) h :=
  fun hg p e R s m args below meth c B H ls locs hR hl hL hf => lv_ifnonnull B.1 B.2.1 hdg ht (k hg p e R s m args below meth c B H ls locs hR hl hL hf)
theorem jr_ifnonnullN {off : Int} (hdg : decode μ.2.1 pc = .ok (.ifnonnull off, 3)) (k : J g μ d hs P (pc + 3) lv st h) : J g μ d hs P pc lv (.null :: st) h :=
  fun hg p e R s m args below meth c B H ls locs hR hl hL hf => lv_ifnonnullN B.1 B.2.1 hdg (k hg p e R s m args below meth c B H ls locs hR hl hL hf)
theorem jr_acmp_ne {rx ry : Option Nat} {off : Int} {tgt : Nat} (hdg : decode μ.2.1 pc = .ok (.if_acmp .ne off, 3)) (ht : (pc : Int) + off = (tgt : Int)) (kt : ¬ rx = ry → J g μ d hs P tgt lv st h) (kf : rx = ry → J g μ d hs P (pc + 3) lv st h) : J g μ d hs P pc lv (va_rf ry :: va_rf rx :: st) h :=
  fun hg p e R s m args below meth c B H ls locs hR hl hL hf => lv_acmp_ne B.1 B.2.1 hdg ht (fun c9 => kt c9 hg p e R s m args below meth c B H ls locs hR hl hL hf) (fun c9 => kf c9 hg p e R s m args below meth c B H ls locs hR hl hL hf)
theorem jr_tableIn {dflt lo hi : Int} {offs : Array Int} {len : Nat} {x : Int32} {off : Int} {tgt : Nat} (hdg : decode μ.2.1 pc = .ok (.tableswitch dflt lo hi offs, len)) (h1 : ¬ x.toInt < lo) (h2 : ¬ hi < x.toInt) (ho : offs[(x.toInt - lo).toNat]? = some off) (ht : (pc : Int) + off = (tgt : Int)) (k : J g μ d hs P tgt lv st h) : J g μ d hs P pc lv (.int x :: st) h :=
  fun hg p e R s m args below meth c B H ls locs hR hl hL hf => lv_tableIn B.1 B.2.1 hdg h1 h2 ho ht (k hg p e R s m args below meth c B H ls locs hR hl hL hf)
theorem jr_tableOut {dflt lo hi : Int} {offs : Array Int} {len : Nat} {x : Int32} {tgt : Nat} (hdg : decode μ.2.1 pc = .ok (.tableswitch dflt lo hi offs, len)) (h1 : x.toInt < lo ∨ hi < x.toInt) (ht : (pc : Int) + dflt = (tgt : Int)) (k : J g μ d hs P tgt lv st h) : J g μ d hs P pc lv (.int x :: st) h :=
  fun hg p e R s m args below meth c B H ls locs hR hl hL hf => lv_tableOut B.1 B.2.1 hdg h1 ht (k hg p e R s m args below meth c B H ls locs hR hl hL hf)
theorem jr_lookup {dflt : Int} {ps : Array (Int × Int)} {len : Nat} {x : Int32} {off : Int} {tgt : Nat} (hdg : decode μ.2.1 pc = .ok (.lookupswitch dflt ps, len)) (hp : (ps.toList.zip (ps.toList.drop 1)).all (fun (a, next) => a.1 < next.1) = true) (ho : Op.lookupswitch.offset ps.toList dflt x.toInt = off) (ht : (pc : Int) + off = (tgt : Int)) (k : J g μ d hs P tgt lv st h) : J g μ d hs P pc lv (.int x :: st) h :=
  fun hg p e R s m args below meth c B H ls locs hR hl hL hf => lv_lookup B.1 B.2.1 hdg hp ho ht (k hg p e R s m args below meth c B H ls locs hR hl hL hf)
theorem jr_sub {lv' : List (Nat × Value)} (ks : List Nat) (hq : lv_pick lv ks = lv') (k : J g μ d hs P pc lv' st h) : J g μ d hs P pc lv st h :=
  fun hg p e R s m args below meth c B H ls locs hR hl hL hf => k hg p e R s m args below meth c B H ls locs hR (lv_sub hl ks hq) hL hf
end JR1
