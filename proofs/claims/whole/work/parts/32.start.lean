/-! what the Statement gives of the start: static rows, Strings -/
theorem pj_a1 {a b : Cond} {args : Array Value} {s : State} (h : (Cond.and a b).before args s = true) : a.before args s = true := by
  rw [Cond.before_and, Bool.and_eq_true] at h
  exact h.1
theorem pj_a2 {a b : Cond} {args : Array Value} {s : State} (h : (Cond.and a b).before args s = true) : b.before args s = true := by
  rw [Cond.before_and, Bool.and_eq_true] at h
  exact h.2
theorem nw_0 {args : Array Value} {s : State} (h : narrow_1.before args s = true) : ((Cond.arrayOf (Term.static "PulledJersey" "LENGTH_OF_KIND" "[I") FieldType.int) : Cond).before args s = true := pj_a1 (pj_a1 (pj_a2 (pj_a1 (pj_a1 (pj_a1 (pj_a1 (pj_a1 (pj_a1 h))))))))
theorem nw_1 {args : Array Value} {s : State} (h : narrow_1.before args s = true) : ((Cond.eq (Term.length (Term.static "PulledJersey" "LENGTH_OF_KIND" "[I")) (Term.int (4 : Int32))) : Cond).before args s = true := pj_a2 (pj_a1 (pj_a2 (pj_a1 (pj_a1 (pj_a1 (pj_a1 (pj_a1 (pj_a1 h))))))))
theorem nw_2 {args : Array Value} {s : State} (h : narrow_1.before args s = true) : ((Cond.eq (Term.elem (Term.static "PulledJersey" "LENGTH_OF_KIND" "[I") (Term.int (0 : Int32))) (Term.int (3 : Int32))) : Cond).before args s = true := pj_a1 (pj_a2 (pj_a2 (pj_a1 (pj_a1 (pj_a1 (pj_a1 (pj_a1 (pj_a1 h))))))))
theorem nw_3 {args : Array Value} {s : State} (h : narrow_1.before args s = true) : ((Cond.eq (Term.elem (Term.static "PulledJersey" "LENGTH_OF_KIND" "[I") (Term.int (1 : Int32))) (Term.int (4 : Int32))) : Cond).before args s = true := pj_a2 (pj_a2 (pj_a2 (pj_a1 (pj_a1 (pj_a1 (pj_a1 (pj_a1 (pj_a1 h))))))))
theorem nw_4 {args : Array Value} {s : State} (h : narrow_1.before args s = true) : ((Cond.eq (Term.elem (Term.static "PulledJersey" "LENGTH_OF_KIND" "[I") (Term.int (2 : Int32))) (Term.int (2 : Int32))) : Cond).before args s = true := pj_a1 (pj_a1 (pj_a1 (pj_a2 (pj_a1 (pj_a1 (pj_a1 (pj_a1 (pj_a1 h))))))))
theorem nw_5 {args : Array Value} {s : State} (h : narrow_1.before args s = true) : ((Cond.eq (Term.elem (Term.static "PulledJersey" "LENGTH_OF_KIND" "[I") (Term.int (3 : Int32))) (Term.int (5 : Int32))) : Cond).before args s = true := pj_a2 (pj_a1 (pj_a1 (pj_a2 (pj_a1 (pj_a1 (pj_a1 (pj_a1 (pj_a1 h))))))))
theorem nw_6 {args : Array Value} {s : State} (h : narrow_1.before args s = true) : ((Cond.eq (Term.static "java/lang/String" "COMPACT_STRINGS" "Z") (Term.int (1 : Int32))) : Cond).before args s = true := pj_a1 (pj_a2 (pj_a1 (pj_a2 (pj_a1 (pj_a1 (pj_a1 (pj_a1 (pj_a1 h))))))))
theorem nw_7 {args : Array Value} {s : State} (h : narrow_1.before args s = true) : ((Cond.isRef (Term.static "jdk/internal/util/Preconditions" "SIOOBE_FORMATTER" "Ljava/util/function/BiFunction;")) : Cond).before args s = true := pj_a2 (pj_a2 (pj_a1 (pj_a2 (pj_a1 (pj_a1 (pj_a1 (pj_a1 (pj_a1 h))))))))
theorem nw_8 {args : Array Value} {s : State} (h : narrow_1.before args s = true) : ((Cond.exactly (Term.string "PulledJersey$LawReader" (91 : Nat)) "java/lang/String") : Cond).before args s = true := pj_a2 (pj_a2 (pj_a2 (pj_a2 (pj_a1 (pj_a1 (pj_a1 (pj_a1 (pj_a1 h))))))))
theorem nw_9 {args : Array Value} {s : State} (h : narrow_1.before args s = true) : ((Cond.eq (Term.field (Term.string "PulledJersey$LawReader" (91 : Nat)) "java/lang/String" "coder" "B") (Term.int (0 : Int32))) : Cond).before args s = true := pj_a1 (pj_a1 (pj_a1 (pj_a2 (pj_a1 (pj_a1 (pj_a1 (pj_a1 h)))))))
theorem nw_10 {args : Array Value} {s : State} (h : narrow_1.before args s = true) : ((Cond.arrayOf (Term.field (Term.string "PulledJersey$LawReader" (91 : Nat)) "java/lang/String" "value" "[B") FieldType.byte) : Cond).before args s = true := pj_a1 (pj_a2 (pj_a1 (pj_a1 (pj_a2 (pj_a1 (pj_a1 (pj_a1 (pj_a1 h))))))))
theorem nw_11 {args : Array Value} {s : State} (h : narrow_1.before args s = true) : ((Cond.eq (Term.length (Term.field (Term.string "PulledJersey$LawReader" (91 : Nat)) "java/lang/String" "value" "[B")) (Term.int (3 : Int32))) : Cond).before args s = true := pj_a2 (pj_a2 (pj_a1 (pj_a1 (pj_a2 (pj_a1 (pj_a1 (pj_a1 (pj_a1 h))))))))
theorem nw_12 {args : Array Value} {s : State} (h : narrow_1.before args s = true) : ((Cond.eq (Term.elem (Term.field (Term.string "PulledJersey$LawReader" (91 : Nat)) "java/lang/String" "value" "[B") (Term.int (0 : Int32))) (Term.int (114 : Int32))) : Cond).before args s = true := pj_a1 (pj_a1 (pj_a2 (pj_a1 (pj_a2 (pj_a1 (pj_a1 (pj_a1 (pj_a1 h))))))))
theorem nw_13 {args : Array Value} {s : State} (h : narrow_1.before args s = true) : ((Cond.eq (Term.elem (Term.field (Term.string "PulledJersey$LawReader" (91 : Nat)) "java/lang/String" "value" "[B") (Term.int (1 : Int32))) (Term.int (117 : Int32))) : Cond).before args s = true := pj_a2 (pj_a1 (pj_a2 (pj_a1 (pj_a2 (pj_a1 (pj_a1 (pj_a1 (pj_a1 h))))))))
theorem nw_14 {args : Array Value} {s : State} (h : narrow_1.before args s = true) : ((Cond.eq (Term.elem (Term.field (Term.string "PulledJersey$LawReader" (91 : Nat)) "java/lang/String" "value" "[B") (Term.int (2 : Int32))) (Term.int (110 : Int32))) : Cond).before args s = true := pj_a1 (pj_a2 (pj_a2 (pj_a1 (pj_a2 (pj_a1 (pj_a1 (pj_a1 (pj_a1 h))))))))
theorem nw_15 {args : Array Value} {s : State} (h : narrow_1.before args s = true) : ((Cond.exactly (Term.string "PulledJersey$LawReader" (97 : Nat)) "java/lang/String") : Cond).before args s = true := pj_a2 (pj_a2 (pj_a2 (pj_a1 (pj_a2 (pj_a1 (pj_a1 (pj_a1 (pj_a1 h))))))))
theorem nw_16 {args : Array Value} {s : State} (h : narrow_1.before args s = true) : ((Cond.eq (Term.field (Term.string "PulledJersey$LawReader" (97 : Nat)) "java/lang/String" "coder" "B") (Term.int (0 : Int32))) : Cond).before args s = true := pj_a1 (pj_a1 (pj_a1 (pj_a2 (pj_a2 (pj_a1 (pj_a1 (pj_a1 (pj_a1 h))))))))
theorem nw_17 {args : Array Value} {s : State} (h : narrow_1.before args s = true) : ((Cond.arrayOf (Term.field (Term.string "PulledJersey$LawReader" (97 : Nat)) "java/lang/String" "value" "[B") FieldType.byte) : Cond).before args s = true := pj_a2 (pj_a1 (pj_a1 (pj_a2 (pj_a2 (pj_a1 (pj_a1 (pj_a1 (pj_a1 h))))))))
theorem nw_18 {args : Array Value} {s : State} (h : narrow_1.before args s = true) : ((Cond.eq (Term.length (Term.field (Term.string "PulledJersey$LawReader" (97 : Nat)) "java/lang/String" "value" "[B")) (Term.int (4 : Int32))) : Cond).before args s = true := pj_a1 (pj_a2 (pj_a1 (pj_a2 (pj_a2 (pj_a1 (pj_a1 (pj_a1 (pj_a1 h))))))))
theorem nw_19 {args : Array Value} {s : State} (h : narrow_1.before args s = true) : ((Cond.eq (Term.elem (Term.field (Term.string "PulledJersey$LawReader" (97 : Nat)) "java/lang/String" "value" "[B") (Term.int (0 : Int32))) (Term.int (119 : Int32))) : Cond).before args s = true := pj_a2 (pj_a2 (pj_a1 (pj_a2 (pj_a2 (pj_a1 (pj_a1 (pj_a1 (pj_a1 h))))))))
theorem nw_20 {args : Array Value} {s : State} (h : narrow_1.before args s = true) : ((Cond.eq (Term.elem (Term.field (Term.string "PulledJersey$LawReader" (97 : Nat)) "java/lang/String" "value" "[B") (Term.int (1 : Int32))) (Term.int (104 : Int32))) : Cond).before args s = true := pj_a1 (pj_a1 (pj_a2 (pj_a2 (pj_a2 (pj_a1 (pj_a1 (pj_a1 (pj_a1 h))))))))
theorem nw_21 {args : Array Value} {s : State} (h : narrow_1.before args s = true) : ((Cond.eq (Term.elem (Term.field (Term.string "PulledJersey$LawReader" (97 : Nat)) "java/lang/String" "value" "[B") (Term.int (2 : Int32))) (Term.int (101 : Int32))) : Cond).before args s = true := pj_a2 (pj_a1 (pj_a2 (pj_a2 (pj_a2 (pj_a1 (pj_a1 (pj_a1 (pj_a1 h))))))))
theorem nw_22 {args : Array Value} {s : State} (h : narrow_1.before args s = true) : ((Cond.eq (Term.elem (Term.field (Term.string "PulledJersey$LawReader" (97 : Nat)) "java/lang/String" "value" "[B") (Term.int (3 : Int32))) (Term.int (110 : Int32))) : Cond).before args s = true := pj_a1 (pj_a2 (pj_a2 (pj_a2 (pj_a2 (pj_a1 (pj_a1 (pj_a1 (pj_a1 h))))))))
theorem nw_23 {args : Array Value} {s : State} (h : narrow_1.before args s = true) : ((Cond.exactly (Term.string "PulledJersey$LawReader" (99 : Nat)) "java/lang/String") : Cond).before args s = true := pj_a1 (pj_a1 (pj_a1 (pj_a1 (pj_a2 (pj_a1 (pj_a1 (pj_a1 h)))))))
theorem nw_24 {args : Array Value} {s : State} (h : narrow_1.before args s = true) : ((Cond.eq (Term.field (Term.string "PulledJersey$LawReader" (99 : Nat)) "java/lang/String" "coder" "B") (Term.int (0 : Int32))) : Cond).before args s = true := pj_a1 (pj_a2 (pj_a1 (pj_a1 (pj_a1 (pj_a2 (pj_a1 (pj_a1 (pj_a1 h))))))))
theorem nw_25 {args : Array Value} {s : State} (h : narrow_1.before args s = true) : ((Cond.arrayOf (Term.field (Term.string "PulledJersey$LawReader" (99 : Nat)) "java/lang/String" "value" "[B") FieldType.byte) : Cond).before args s = true := pj_a2 (pj_a2 (pj_a1 (pj_a1 (pj_a1 (pj_a2 (pj_a1 (pj_a1 (pj_a1 h))))))))
theorem nw_26 {args : Array Value} {s : State} (h : narrow_1.before args s = true) : ((Cond.eq (Term.length (Term.field (Term.string "PulledJersey$LawReader" (99 : Nat)) "java/lang/String" "value" "[B")) (Term.int (2 : Int32))) : Cond).before args s = true := pj_a1 (pj_a1 (pj_a2 (pj_a1 (pj_a1 (pj_a2 (pj_a1 (pj_a1 (pj_a1 h))))))))
theorem nw_27 {args : Array Value} {s : State} (h : narrow_1.before args s = true) : ((Cond.eq (Term.elem (Term.field (Term.string "PulledJersey$LawReader" (99 : Nat)) "java/lang/String" "value" "[B") (Term.int (0 : Int32))) (Term.int (111 : Int32))) : Cond).before args s = true := pj_a2 (pj_a1 (pj_a2 (pj_a1 (pj_a1 (pj_a2 (pj_a1 (pj_a1 (pj_a1 h))))))))
theorem nw_28 {args : Array Value} {s : State} (h : narrow_1.before args s = true) : ((Cond.eq (Term.elem (Term.field (Term.string "PulledJersey$LawReader" (99 : Nat)) "java/lang/String" "value" "[B") (Term.int (1 : Int32))) (Term.int (114 : Int32))) : Cond).before args s = true := pj_a1 (pj_a2 (pj_a2 (pj_a1 (pj_a1 (pj_a2 (pj_a1 (pj_a1 (pj_a1 h))))))))
theorem nw_29 {args : Array Value} {s : State} (h : narrow_1.before args s = true) : ((Cond.exactly (Term.string "PulledJersey$LawReader" (101 : Nat)) "java/lang/String") : Cond).before args s = true := pj_a2 (pj_a1 (pj_a1 (pj_a2 (pj_a1 (pj_a2 (pj_a1 (pj_a1 (pj_a1 h))))))))
theorem nw_30 {args : Array Value} {s : State} (h : narrow_1.before args s = true) : ((Cond.eq (Term.field (Term.string "PulledJersey$LawReader" (101 : Nat)) "java/lang/String" "coder" "B") (Term.int (0 : Int32))) : Cond).before args s = true := pj_a1 (pj_a2 (pj_a1 (pj_a2 (pj_a1 (pj_a2 (pj_a1 (pj_a1 (pj_a1 h))))))))
theorem nw_31 {args : Array Value} {s : State} (h : narrow_1.before args s = true) : ((Cond.arrayOf (Term.field (Term.string "PulledJersey$LawReader" (101 : Nat)) "java/lang/String" "value" "[B") FieldType.byte) : Cond).before args s = true := pj_a2 (pj_a2 (pj_a1 (pj_a2 (pj_a1 (pj_a2 (pj_a1 (pj_a1 (pj_a1 h))))))))
theorem nw_32 {args : Array Value} {s : State} (h : narrow_1.before args s = true) : ((Cond.eq (Term.length (Term.field (Term.string "PulledJersey$LawReader" (101 : Nat)) "java/lang/String" "value" "[B")) (Term.int (3 : Int32))) : Cond).before args s = true := pj_a1 (pj_a1 (pj_a2 (pj_a2 (pj_a1 (pj_a2 (pj_a1 (pj_a1 (pj_a1 h))))))))
theorem nw_33 {args : Array Value} {s : State} (h : narrow_1.before args s = true) : ((Cond.eq (Term.elem (Term.field (Term.string "PulledJersey$LawReader" (101 : Nat)) "java/lang/String" "value" "[B") (Term.int (0 : Int32))) (Term.int (97 : Int32))) : Cond).before args s = true := pj_a2 (pj_a1 (pj_a2 (pj_a2 (pj_a1 (pj_a2 (pj_a1 (pj_a1 (pj_a1 h))))))))
theorem nw_34 {args : Array Value} {s : State} (h : narrow_1.before args s = true) : ((Cond.eq (Term.elem (Term.field (Term.string "PulledJersey$LawReader" (101 : Nat)) "java/lang/String" "value" "[B") (Term.int (1 : Int32))) (Term.int (110 : Int32))) : Cond).before args s = true := pj_a1 (pj_a2 (pj_a2 (pj_a2 (pj_a1 (pj_a2 (pj_a1 (pj_a1 (pj_a1 h))))))))
theorem nw_35 {args : Array Value} {s : State} (h : narrow_1.before args s = true) : ((Cond.eq (Term.elem (Term.field (Term.string "PulledJersey$LawReader" (101 : Nat)) "java/lang/String" "value" "[B") (Term.int (2 : Int32))) (Term.int (100 : Int32))) : Cond).before args s = true := pj_a2 (pj_a2 (pj_a2 (pj_a2 (pj_a1 (pj_a2 (pj_a1 (pj_a1 (pj_a1 h))))))))
theorem nw_36 {args : Array Value} {s : State} (h : narrow_1.before args s = true) : ((Cond.exactly (Term.string "PulledJersey$LawReader" (103 : Nat)) "java/lang/String") : Cond).before args s = true := pj_a1 (pj_a1 (pj_a2 (pj_a1 (pj_a2 (pj_a2 (pj_a1 (pj_a1 (pj_a1 h))))))))
theorem nw_37 {args : Array Value} {s : State} (h : narrow_1.before args s = true) : ((Cond.eq (Term.field (Term.string "PulledJersey$LawReader" (103 : Nat)) "java/lang/String" "coder" "B") (Term.int (0 : Int32))) : Cond).before args s = true := pj_a2 (pj_a1 (pj_a2 (pj_a1 (pj_a2 (pj_a2 (pj_a1 (pj_a1 (pj_a1 h))))))))
theorem nw_38 {args : Array Value} {s : State} (h : narrow_1.before args s = true) : ((Cond.arrayOf (Term.field (Term.string "PulledJersey$LawReader" (103 : Nat)) "java/lang/String" "value" "[B") FieldType.byte) : Cond).before args s = true := pj_a1 (pj_a2 (pj_a2 (pj_a1 (pj_a2 (pj_a2 (pj_a1 (pj_a1 (pj_a1 h))))))))
theorem nw_39 {args : Array Value} {s : State} (h : narrow_1.before args s = true) : ((Cond.eq (Term.length (Term.field (Term.string "PulledJersey$LawReader" (103 : Nat)) "java/lang/String" "value" "[B")) (Term.int (3 : Int32))) : Cond).before args s = true := pj_a2 (pj_a2 (pj_a2 (pj_a1 (pj_a2 (pj_a2 (pj_a1 (pj_a1 (pj_a1 h))))))))
theorem nw_40 {args : Array Value} {s : State} (h : narrow_1.before args s = true) : ((Cond.eq (Term.elem (Term.field (Term.string "PulledJersey$LawReader" (103 : Nat)) "java/lang/String" "value" "[B") (Term.int (0 : Int32))) (Term.int (110 : Int32))) : Cond).before args s = true := pj_a1 (pj_a1 (pj_a1 (pj_a2 (pj_a2 (pj_a2 (pj_a1 (pj_a1 (pj_a1 h))))))))
theorem nw_41 {args : Array Value} {s : State} (h : narrow_1.before args s = true) : ((Cond.eq (Term.elem (Term.field (Term.string "PulledJersey$LawReader" (103 : Nat)) "java/lang/String" "value" "[B") (Term.int (1 : Int32))) (Term.int (111 : Int32))) : Cond).before args s = true := pj_a2 (pj_a1 (pj_a1 (pj_a2 (pj_a2 (pj_a2 (pj_a1 (pj_a1 (pj_a1 h))))))))
theorem nw_42 {args : Array Value} {s : State} (h : narrow_1.before args s = true) : ((Cond.eq (Term.elem (Term.field (Term.string "PulledJersey$LawReader" (103 : Nat)) "java/lang/String" "value" "[B") (Term.int (2 : Int32))) (Term.int (116 : Int32))) : Cond).before args s = true := pj_a1 (pj_a2 (pj_a1 (pj_a2 (pj_a2 (pj_a2 (pj_a1 (pj_a1 (pj_a1 h))))))))
theorem nw_43 {args : Array Value} {s : State} (h : narrow_1.before args s = true) : ((Cond.exactly (Term.string "PulledJersey$LawReader" (108 : Nat)) "java/lang/String") : Cond).before args s = true := pj_a2 (pj_a2 (pj_a2 (pj_a2 (pj_a2 (pj_a2 (pj_a1 (pj_a1 (pj_a1 h))))))))
theorem nw_44 {args : Array Value} {s : State} (h : narrow_1.before args s = true) : ((Cond.eq (Term.field (Term.string "PulledJersey$LawReader" (108 : Nat)) "java/lang/String" "coder" "B") (Term.int (0 : Int32))) : Cond).before args s = true := pj_a1 (pj_a1 (pj_a1 (pj_a1 (pj_a1 (pj_a2 (pj_a1 (pj_a1 h)))))))
theorem nw_45 {args : Array Value} {s : State} (h : narrow_1.before args s = true) : ((Cond.arrayOf (Term.field (Term.string "PulledJersey$LawReader" (108 : Nat)) "java/lang/String" "value" "[B") FieldType.byte) : Cond).before args s = true := pj_a1 (pj_a2 (pj_a1 (pj_a1 (pj_a1 (pj_a1 (pj_a2 (pj_a1 (pj_a1 h))))))))
theorem nw_46 {args : Array Value} {s : State} (h : narrow_1.before args s = true) : ((Cond.eq (Term.length (Term.field (Term.string "PulledJersey$LawReader" (108 : Nat)) "java/lang/String" "value" "[B")) (Term.int (4 : Int32))) : Cond).before args s = true := pj_a2 (pj_a2 (pj_a1 (pj_a1 (pj_a1 (pj_a1 (pj_a2 (pj_a1 (pj_a1 h))))))))
theorem nw_47 {args : Array Value} {s : State} (h : narrow_1.before args s = true) : ((Cond.eq (Term.elem (Term.field (Term.string "PulledJersey$LawReader" (108 : Nat)) "java/lang/String" "value" "[B") (Term.int (0 : Int32))) (Term.int (107 : Int32))) : Cond).before args s = true := pj_a1 (pj_a1 (pj_a2 (pj_a1 (pj_a1 (pj_a1 (pj_a2 (pj_a1 (pj_a1 h))))))))
theorem nw_48 {args : Array Value} {s : State} (h : narrow_1.before args s = true) : ((Cond.eq (Term.elem (Term.field (Term.string "PulledJersey$LawReader" (108 : Nat)) "java/lang/String" "value" "[B") (Term.int (1 : Int32))) (Term.int (105 : Int32))) : Cond).before args s = true := pj_a2 (pj_a1 (pj_a2 (pj_a1 (pj_a1 (pj_a1 (pj_a2 (pj_a1 (pj_a1 h))))))))
theorem nw_49 {args : Array Value} {s : State} (h : narrow_1.before args s = true) : ((Cond.eq (Term.elem (Term.field (Term.string "PulledJersey$LawReader" (108 : Nat)) "java/lang/String" "value" "[B") (Term.int (2 : Int32))) (Term.int (110 : Int32))) : Cond).before args s = true := pj_a1 (pj_a2 (pj_a2 (pj_a1 (pj_a1 (pj_a1 (pj_a2 (pj_a1 (pj_a1 h))))))))
theorem nw_50 {args : Array Value} {s : State} (h : narrow_1.before args s = true) : ((Cond.eq (Term.elem (Term.field (Term.string "PulledJersey$LawReader" (108 : Nat)) "java/lang/String" "value" "[B") (Term.int (3 : Int32))) (Term.int (100 : Int32))) : Cond).before args s = true := pj_a2 (pj_a2 (pj_a2 (pj_a1 (pj_a1 (pj_a1 (pj_a2 (pj_a1 (pj_a1 h))))))))
theorem nw_51 {args : Array Value} {s : State} (h : narrow_1.before args s = true) : ((Cond.exactly (Term.string "PulledJersey$LawReader" (110 : Nat)) "java/lang/String") : Cond).before args s = true := pj_a2 (pj_a1 (pj_a2 (pj_a2 (pj_a1 (pj_a1 (pj_a2 (pj_a1 (pj_a1 h))))))))
theorem nw_52 {args : Array Value} {s : State} (h : narrow_1.before args s = true) : ((Cond.eq (Term.field (Term.string "PulledJersey$LawReader" (110 : Nat)) "java/lang/String" "coder" "B") (Term.int (0 : Int32))) : Cond).before args s = true := pj_a1 (pj_a2 (pj_a2 (pj_a2 (pj_a1 (pj_a1 (pj_a2 (pj_a1 (pj_a1 h))))))))
theorem nw_53 {args : Array Value} {s : State} (h : narrow_1.before args s = true) : ((Cond.arrayOf (Term.field (Term.string "PulledJersey$LawReader" (110 : Nat)) "java/lang/String" "value" "[B") FieldType.byte) : Cond).before args s = true := pj_a2 (pj_a2 (pj_a2 (pj_a2 (pj_a1 (pj_a1 (pj_a2 (pj_a1 (pj_a1 h))))))))
theorem nw_54 {args : Array Value} {s : State} (h : narrow_1.before args s = true) : ((Cond.eq (Term.length (Term.field (Term.string "PulledJersey$LawReader" (110 : Nat)) "java/lang/String" "value" "[B")) (Term.int (3 : Int32))) : Cond).before args s = true := pj_a1 (pj_a1 (pj_a1 (pj_a2 (pj_a1 (pj_a2 (pj_a1 (pj_a1 h)))))))
theorem nw_55 {args : Array Value} {s : State} (h : narrow_1.before args s = true) : ((Cond.eq (Term.elem (Term.field (Term.string "PulledJersey$LawReader" (110 : Nat)) "java/lang/String" "value" "[B") (Term.int (0 : Int32))) (Term.int (114 : Int32))) : Cond).before args s = true := pj_a1 (pj_a2 (pj_a1 (pj_a1 (pj_a2 (pj_a1 (pj_a2 (pj_a1 (pj_a1 h))))))))
theorem nw_56 {args : Array Value} {s : State} (h : narrow_1.before args s = true) : ((Cond.eq (Term.elem (Term.field (Term.string "PulledJersey$LawReader" (110 : Nat)) "java/lang/String" "value" "[B") (Term.int (1 : Int32))) (Term.int (111 : Int32))) : Cond).before args s = true := pj_a2 (pj_a2 (pj_a1 (pj_a1 (pj_a2 (pj_a1 (pj_a2 (pj_a1 (pj_a1 h))))))))
theorem nw_57 {args : Array Value} {s : State} (h : narrow_1.before args s = true) : ((Cond.eq (Term.elem (Term.field (Term.string "PulledJersey$LawReader" (110 : Nat)) "java/lang/String" "value" "[B") (Term.int (2 : Int32))) (Term.int (119 : Int32))) : Cond).before args s = true := pj_a1 (pj_a1 (pj_a2 (pj_a1 (pj_a2 (pj_a1 (pj_a2 (pj_a1 (pj_a1 h))))))))
theorem nw_58 {args : Array Value} {s : State} (h : narrow_1.before args s = true) : ((Cond.exactly (Term.string "PulledJersey$LawReader" (112 : Nat)) "java/lang/String") : Cond).before args s = true := pj_a2 (pj_a2 (pj_a1 (pj_a2 (pj_a2 (pj_a1 (pj_a2 (pj_a1 (pj_a1 h))))))))
theorem nw_59 {args : Array Value} {s : State} (h : narrow_1.before args s = true) : ((Cond.eq (Term.field (Term.string "PulledJersey$LawReader" (112 : Nat)) "java/lang/String" "coder" "B") (Term.int (0 : Int32))) : Cond).before args s = true := pj_a1 (pj_a1 (pj_a2 (pj_a2 (pj_a2 (pj_a1 (pj_a2 (pj_a1 (pj_a1 h))))))))
theorem nw_60 {args : Array Value} {s : State} (h : narrow_1.before args s = true) : ((Cond.arrayOf (Term.field (Term.string "PulledJersey$LawReader" (112 : Nat)) "java/lang/String" "value" "[B") FieldType.byte) : Cond).before args s = true := pj_a2 (pj_a1 (pj_a2 (pj_a2 (pj_a2 (pj_a1 (pj_a2 (pj_a1 (pj_a1 h))))))))
theorem nw_61 {args : Array Value} {s : State} (h : narrow_1.before args s = true) : ((Cond.eq (Term.length (Term.field (Term.string "PulledJersey$LawReader" (112 : Nat)) "java/lang/String" "value" "[B")) (Term.int (6 : Int32))) : Cond).before args s = true := pj_a1 (pj_a2 (pj_a2 (pj_a2 (pj_a2 (pj_a1 (pj_a2 (pj_a1 (pj_a1 h))))))))
theorem nw_62 {args : Array Value} {s : State} (h : narrow_1.before args s = true) : ((Cond.eq (Term.elem (Term.field (Term.string "PulledJersey$LawReader" (112 : Nat)) "java/lang/String" "value" "[B") (Term.int (0 : Int32))) (Term.int (99 : Int32))) : Cond).before args s = true := pj_a2 (pj_a2 (pj_a2 (pj_a2 (pj_a2 (pj_a1 (pj_a2 (pj_a1 (pj_a1 h))))))))
theorem nw_63 {args : Array Value} {s : State} (h : narrow_1.before args s = true) : ((Cond.eq (Term.elem (Term.field (Term.string "PulledJersey$LawReader" (112 : Nat)) "java/lang/String" "value" "[B") (Term.int (1 : Int32))) (Term.int (111 : Int32))) : Cond).before args s = true := pj_a1 (pj_a1 (pj_a1 (pj_a1 (pj_a2 (pj_a2 (pj_a1 (pj_a1 h)))))))
theorem nw_64 {args : Array Value} {s : State} (h : narrow_1.before args s = true) : ((Cond.eq (Term.elem (Term.field (Term.string "PulledJersey$LawReader" (112 : Nat)) "java/lang/String" "value" "[B") (Term.int (2 : Int32))) (Term.int (108 : Int32))) : Cond).before args s = true := pj_a1 (pj_a2 (pj_a1 (pj_a1 (pj_a1 (pj_a2 (pj_a2 (pj_a1 (pj_a1 h))))))))
theorem nw_65 {args : Array Value} {s : State} (h : narrow_1.before args s = true) : ((Cond.eq (Term.elem (Term.field (Term.string "PulledJersey$LawReader" (112 : Nat)) "java/lang/String" "value" "[B") (Term.int (3 : Int32))) (Term.int (117 : Int32))) : Cond).before args s = true := pj_a2 (pj_a2 (pj_a1 (pj_a1 (pj_a1 (pj_a2 (pj_a2 (pj_a1 (pj_a1 h))))))))
theorem nw_66 {args : Array Value} {s : State} (h : narrow_1.before args s = true) : ((Cond.eq (Term.elem (Term.field (Term.string "PulledJersey$LawReader" (112 : Nat)) "java/lang/String" "value" "[B") (Term.int (4 : Int32))) (Term.int (109 : Int32))) : Cond).before args s = true := pj_a1 (pj_a1 (pj_a2 (pj_a1 (pj_a1 (pj_a2 (pj_a2 (pj_a1 (pj_a1 h))))))))
theorem nw_67 {args : Array Value} {s : State} (h : narrow_1.before args s = true) : ((Cond.eq (Term.elem (Term.field (Term.string "PulledJersey$LawReader" (112 : Nat)) "java/lang/String" "value" "[B") (Term.int (5 : Int32))) (Term.int (110 : Int32))) : Cond).before args s = true := pj_a2 (pj_a1 (pj_a2 (pj_a1 (pj_a1 (pj_a2 (pj_a2 (pj_a1 (pj_a1 h))))))))
theorem nw_68 {args : Array Value} {s : State} (h : narrow_1.before args s = true) : ((Cond.exactly (Term.string "PulledJersey$LawReader" (114 : Nat)) "java/lang/String") : Cond).before args s = true := pj_a2 (pj_a1 (pj_a2 (pj_a2 (pj_a1 (pj_a2 (pj_a2 (pj_a1 (pj_a1 h))))))))
theorem nw_69 {args : Array Value} {s : State} (h : narrow_1.before args s = true) : ((Cond.eq (Term.field (Term.string "PulledJersey$LawReader" (114 : Nat)) "java/lang/String" "coder" "B") (Term.int (0 : Int32))) : Cond).before args s = true := pj_a1 (pj_a2 (pj_a2 (pj_a2 (pj_a1 (pj_a2 (pj_a2 (pj_a1 (pj_a1 h))))))))
theorem nw_70 {args : Array Value} {s : State} (h : narrow_1.before args s = true) : ((Cond.arrayOf (Term.field (Term.string "PulledJersey$LawReader" (114 : Nat)) "java/lang/String" "value" "[B") FieldType.byte) : Cond).before args s = true := pj_a2 (pj_a2 (pj_a2 (pj_a2 (pj_a1 (pj_a2 (pj_a2 (pj_a1 (pj_a1 h))))))))
theorem nw_71 {args : Array Value} {s : State} (h : narrow_1.before args s = true) : ((Cond.eq (Term.length (Term.field (Term.string "PulledJersey$LawReader" (114 : Nat)) "java/lang/String" "value" "[B")) (Term.int (6 : Int32))) : Cond).before args s = true := pj_a1 (pj_a1 (pj_a1 (pj_a2 (pj_a2 (pj_a2 (pj_a1 (pj_a1 h)))))))
theorem nw_72 {args : Array Value} {s : State} (h : narrow_1.before args s = true) : ((Cond.eq (Term.elem (Term.field (Term.string "PulledJersey$LawReader" (114 : Nat)) "java/lang/String" "value" "[B") (Term.int (0 : Int32))) (Term.int (98 : Int32))) : Cond).before args s = true := pj_a1 (pj_a2 (pj_a1 (pj_a1 (pj_a2 (pj_a2 (pj_a2 (pj_a1 (pj_a1 h))))))))
theorem nw_73 {args : Array Value} {s : State} (h : narrow_1.before args s = true) : ((Cond.eq (Term.elem (Term.field (Term.string "PulledJersey$LawReader" (114 : Nat)) "java/lang/String" "value" "[B") (Term.int (1 : Int32))) (Term.int (101 : Int32))) : Cond).before args s = true := pj_a2 (pj_a2 (pj_a1 (pj_a1 (pj_a2 (pj_a2 (pj_a2 (pj_a1 (pj_a1 h))))))))
theorem nw_74 {args : Array Value} {s : State} (h : narrow_1.before args s = true) : ((Cond.eq (Term.elem (Term.field (Term.string "PulledJersey$LawReader" (114 : Nat)) "java/lang/String" "value" "[B") (Term.int (2 : Int32))) (Term.int (115 : Int32))) : Cond).before args s = true := pj_a1 (pj_a1 (pj_a2 (pj_a1 (pj_a2 (pj_a2 (pj_a2 (pj_a1 (pj_a1 h))))))))
theorem nw_75 {args : Array Value} {s : State} (h : narrow_1.before args s = true) : ((Cond.eq (Term.elem (Term.field (Term.string "PulledJersey$LawReader" (114 : Nat)) "java/lang/String" "value" "[B") (Term.int (3 : Int32))) (Term.int (105 : Int32))) : Cond).before args s = true := pj_a2 (pj_a1 (pj_a2 (pj_a1 (pj_a2 (pj_a2 (pj_a2 (pj_a1 (pj_a1 h))))))))
theorem nw_76 {args : Array Value} {s : State} (h : narrow_1.before args s = true) : ((Cond.eq (Term.elem (Term.field (Term.string "PulledJersey$LawReader" (114 : Nat)) "java/lang/String" "value" "[B") (Term.int (4 : Int32))) (Term.int (100 : Int32))) : Cond).before args s = true := pj_a1 (pj_a2 (pj_a2 (pj_a1 (pj_a2 (pj_a2 (pj_a2 (pj_a1 (pj_a1 h))))))))
theorem nw_77 {args : Array Value} {s : State} (h : narrow_1.before args s = true) : ((Cond.eq (Term.elem (Term.field (Term.string "PulledJersey$LawReader" (114 : Nat)) "java/lang/String" "value" "[B") (Term.int (5 : Int32))) (Term.int (101 : Int32))) : Cond).before args s = true := pj_a2 (pj_a2 (pj_a2 (pj_a1 (pj_a2 (pj_a2 (pj_a2 (pj_a1 (pj_a1 h))))))))
theorem nw_78 {args : Array Value} {s : State} (h : narrow_1.before args s = true) : ((Cond.exactly (Term.string "PulledJersey$LawReader" (116 : Nat)) "java/lang/String") : Cond).before args s = true := pj_a1 (pj_a1 (pj_a1 (pj_a1 (pj_a1 (pj_a1 (pj_a2 (pj_a1 h)))))))
theorem nw_79 {args : Array Value} {s : State} (h : narrow_1.before args s = true) : ((Cond.eq (Term.field (Term.string "PulledJersey$LawReader" (116 : Nat)) "java/lang/String" "coder" "B") (Term.int (0 : Int32))) : Cond).before args s = true := pj_a1 (pj_a2 (pj_a1 (pj_a1 (pj_a1 (pj_a1 (pj_a1 (pj_a2 (pj_a1 h))))))))
theorem nw_80 {args : Array Value} {s : State} (h : narrow_1.before args s = true) : ((Cond.arrayOf (Term.field (Term.string "PulledJersey$LawReader" (116 : Nat)) "java/lang/String" "value" "[B") FieldType.byte) : Cond).before args s = true := pj_a2 (pj_a2 (pj_a1 (pj_a1 (pj_a1 (pj_a1 (pj_a1 (pj_a2 (pj_a1 h))))))))
theorem nw_81 {args : Array Value} {s : State} (h : narrow_1.before args s = true) : ((Cond.eq (Term.length (Term.field (Term.string "PulledJersey$LawReader" (116 : Nat)) "java/lang/String" "value" "[B")) (Term.int (5 : Int32))) : Cond).before args s = true := pj_a1 (pj_a1 (pj_a2 (pj_a1 (pj_a1 (pj_a1 (pj_a1 (pj_a2 (pj_a1 h))))))))
theorem nw_82 {args : Array Value} {s : State} (h : narrow_1.before args s = true) : ((Cond.eq (Term.elem (Term.field (Term.string "PulledJersey$LawReader" (116 : Nat)) "java/lang/String" "value" "[B") (Term.int (0 : Int32))) (Term.int (98 : Int32))) : Cond).before args s = true := pj_a2 (pj_a1 (pj_a2 (pj_a1 (pj_a1 (pj_a1 (pj_a1 (pj_a2 (pj_a1 h))))))))
theorem nw_83 {args : Array Value} {s : State} (h : narrow_1.before args s = true) : ((Cond.eq (Term.elem (Term.field (Term.string "PulledJersey$LawReader" (116 : Nat)) "java/lang/String" "value" "[B") (Term.int (1 : Int32))) (Term.int (101 : Int32))) : Cond).before args s = true := pj_a1 (pj_a2 (pj_a2 (pj_a1 (pj_a1 (pj_a1 (pj_a1 (pj_a2 (pj_a1 h))))))))
theorem nw_84 {args : Array Value} {s : State} (h : narrow_1.before args s = true) : ((Cond.eq (Term.elem (Term.field (Term.string "PulledJersey$LawReader" (116 : Nat)) "java/lang/String" "value" "[B") (Term.int (2 : Int32))) (Term.int (108 : Int32))) : Cond).before args s = true := pj_a2 (pj_a2 (pj_a2 (pj_a1 (pj_a1 (pj_a1 (pj_a1 (pj_a2 (pj_a1 h))))))))
theorem nw_85 {args : Array Value} {s : State} (h : narrow_1.before args s = true) : ((Cond.eq (Term.elem (Term.field (Term.string "PulledJersey$LawReader" (116 : Nat)) "java/lang/String" "value" "[B") (Term.int (3 : Int32))) (Term.int (111 : Int32))) : Cond).before args s = true := pj_a1 (pj_a1 (pj_a1 (pj_a2 (pj_a1 (pj_a1 (pj_a1 (pj_a2 (pj_a1 h))))))))
theorem nw_86 {args : Array Value} {s : State} (h : narrow_1.before args s = true) : ((Cond.eq (Term.elem (Term.field (Term.string "PulledJersey$LawReader" (116 : Nat)) "java/lang/String" "value" "[B") (Term.int (4 : Int32))) (Term.int (119 : Int32))) : Cond).before args s = true := pj_a2 (pj_a1 (pj_a1 (pj_a2 (pj_a1 (pj_a1 (pj_a1 (pj_a2 (pj_a1 h))))))))
theorem nw_87 {args : Array Value} {s : State} (h : narrow_1.before args s = true) : ((Cond.exactly (Term.string "PulledJersey$LawReader" (118 : Nat)) "java/lang/String") : Cond).before args s = true := pj_a1 (pj_a1 (pj_a2 (pj_a1 (pj_a2 (pj_a1 (pj_a1 (pj_a2 (pj_a1 h))))))))
theorem nw_88 {args : Array Value} {s : State} (h : narrow_1.before args s = true) : ((Cond.eq (Term.field (Term.string "PulledJersey$LawReader" (118 : Nat)) "java/lang/String" "coder" "B") (Term.int (0 : Int32))) : Cond).before args s = true := pj_a2 (pj_a1 (pj_a2 (pj_a1 (pj_a2 (pj_a1 (pj_a1 (pj_a2 (pj_a1 h))))))))
theorem nw_89 {args : Array Value} {s : State} (h : narrow_1.before args s = true) : ((Cond.arrayOf (Term.field (Term.string "PulledJersey$LawReader" (118 : Nat)) "java/lang/String" "value" "[B") FieldType.byte) : Cond).before args s = true := pj_a1 (pj_a2 (pj_a2 (pj_a1 (pj_a2 (pj_a1 (pj_a1 (pj_a2 (pj_a1 h))))))))
theorem nw_90 {args : Array Value} {s : State} (h : narrow_1.before args s = true) : ((Cond.eq (Term.length (Term.field (Term.string "PulledJersey$LawReader" (118 : Nat)) "java/lang/String" "value" "[B")) (Term.int (4 : Int32))) : Cond).before args s = true := pj_a2 (pj_a2 (pj_a2 (pj_a1 (pj_a2 (pj_a1 (pj_a1 (pj_a2 (pj_a1 h))))))))
theorem nw_91 {args : Array Value} {s : State} (h : narrow_1.before args s = true) : ((Cond.eq (Term.elem (Term.field (Term.string "PulledJersey$LawReader" (118 : Nat)) "java/lang/String" "value" "[B") (Term.int (0 : Int32))) (Term.int (104 : Int32))) : Cond).before args s = true := pj_a1 (pj_a1 (pj_a1 (pj_a2 (pj_a2 (pj_a1 (pj_a1 (pj_a2 (pj_a1 h))))))))
theorem nw_92 {args : Array Value} {s : State} (h : narrow_1.before args s = true) : ((Cond.eq (Term.elem (Term.field (Term.string "PulledJersey$LawReader" (118 : Nat)) "java/lang/String" "value" "[B") (Term.int (1 : Int32))) (Term.int (111 : Int32))) : Cond).before args s = true := pj_a2 (pj_a1 (pj_a1 (pj_a2 (pj_a2 (pj_a1 (pj_a1 (pj_a2 (pj_a1 h))))))))
theorem nw_93 {args : Array Value} {s : State} (h : narrow_1.before args s = true) : ((Cond.eq (Term.elem (Term.field (Term.string "PulledJersey$LawReader" (118 : Nat)) "java/lang/String" "value" "[B") (Term.int (2 : Int32))) (Term.int (117 : Int32))) : Cond).before args s = true := pj_a1 (pj_a2 (pj_a1 (pj_a2 (pj_a2 (pj_a1 (pj_a1 (pj_a2 (pj_a1 h))))))))
theorem nw_94 {args : Array Value} {s : State} (h : narrow_1.before args s = true) : ((Cond.eq (Term.elem (Term.field (Term.string "PulledJersey$LawReader" (118 : Nat)) "java/lang/String" "value" "[B") (Term.int (3 : Int32))) (Term.int (114 : Int32))) : Cond).before args s = true := pj_a2 (pj_a2 (pj_a1 (pj_a2 (pj_a2 (pj_a1 (pj_a1 (pj_a2 (pj_a1 h))))))))
theorem nw_95 {args : Array Value} {s : State} (h : narrow_1.before args s = true) : ((Cond.exactly (Term.string "PulledJersey$LawReader" (120 : Nat)) "java/lang/String") : Cond).before args s = true := pj_a2 (pj_a2 (pj_a2 (pj_a1 (pj_a1 (pj_a2 (pj_a1 (pj_a2 (pj_a1 h))))))))
theorem nw_96 {args : Array Value} {s : State} (h : narrow_1.before args s = true) : ((Cond.eq (Term.field (Term.string "PulledJersey$LawReader" (120 : Nat)) "java/lang/String" "coder" "B") (Term.int (0 : Int32))) : Cond).before args s = true := pj_a1 (pj_a1 (pj_a1 (pj_a2 (pj_a1 (pj_a2 (pj_a1 (pj_a2 (pj_a1 h))))))))
theorem nw_97 {args : Array Value} {s : State} (h : narrow_1.before args s = true) : ((Cond.arrayOf (Term.field (Term.string "PulledJersey$LawReader" (120 : Nat)) "java/lang/String" "value" "[B") FieldType.byte) : Cond).before args s = true := pj_a2 (pj_a1 (pj_a1 (pj_a2 (pj_a1 (pj_a2 (pj_a1 (pj_a2 (pj_a1 h))))))))
theorem nw_98 {args : Array Value} {s : State} (h : narrow_1.before args s = true) : ((Cond.eq (Term.length (Term.field (Term.string "PulledJersey$LawReader" (120 : Nat)) "java/lang/String" "value" "[B")) (Term.int (4 : Int32))) : Cond).before args s = true := pj_a1 (pj_a2 (pj_a1 (pj_a2 (pj_a1 (pj_a2 (pj_a1 (pj_a2 (pj_a1 h))))))))
theorem nw_99 {args : Array Value} {s : State} (h : narrow_1.before args s = true) : ((Cond.eq (Term.elem (Term.field (Term.string "PulledJersey$LawReader" (120 : Nat)) "java/lang/String" "value" "[B") (Term.int (0 : Int32))) (Term.int (103 : Int32))) : Cond).before args s = true := pj_a2 (pj_a2 (pj_a1 (pj_a2 (pj_a1 (pj_a2 (pj_a1 (pj_a2 (pj_a1 h))))))))
theorem nw_100 {args : Array Value} {s : State} (h : narrow_1.before args s = true) : ((Cond.eq (Term.elem (Term.field (Term.string "PulledJersey$LawReader" (120 : Nat)) "java/lang/String" "value" "[B") (Term.int (1 : Int32))) (Term.int (111 : Int32))) : Cond).before args s = true := pj_a1 (pj_a1 (pj_a2 (pj_a2 (pj_a1 (pj_a2 (pj_a1 (pj_a2 (pj_a1 h))))))))
theorem nw_101 {args : Array Value} {s : State} (h : narrow_1.before args s = true) : ((Cond.eq (Term.elem (Term.field (Term.string "PulledJersey$LawReader" (120 : Nat)) "java/lang/String" "value" "[B") (Term.int (2 : Int32))) (Term.int (110 : Int32))) : Cond).before args s = true := pj_a2 (pj_a1 (pj_a2 (pj_a2 (pj_a1 (pj_a2 (pj_a1 (pj_a2 (pj_a1 h))))))))
theorem nw_102 {args : Array Value} {s : State} (h : narrow_1.before args s = true) : ((Cond.eq (Term.elem (Term.field (Term.string "PulledJersey$LawReader" (120 : Nat)) "java/lang/String" "value" "[B") (Term.int (3 : Int32))) (Term.int (101 : Int32))) : Cond).before args s = true := pj_a1 (pj_a2 (pj_a2 (pj_a2 (pj_a1 (pj_a2 (pj_a1 (pj_a2 (pj_a1 h))))))))
theorem nw_103 {args : Array Value} {s : State} (h : narrow_1.before args s = true) : ((Cond.not (Cond.eq (Term.string "PulledJersey$LawReader" (91 : Nat)) (Term.string "PulledJersey$LawReader" (97 : Nat)))) : Cond).before args s = true := pj_a2 (pj_a2 (pj_a2 (pj_a2 (pj_a2 (pj_a1 (pj_a1 (pj_a1 (pj_a1 h))))))))
theorem nw_104 {args : Array Value} {s : State} (h : narrow_1.before args s = true) : ((Cond.not (Cond.eq (Term.string "PulledJersey$LawReader" (91 : Nat)) (Term.string "PulledJersey$LawReader" (99 : Nat)))) : Cond).before args s = true := pj_a2 (pj_a2 (pj_a2 (pj_a1 (pj_a1 (pj_a2 (pj_a1 (pj_a1 (pj_a1 h))))))))
theorem nw_105 {args : Array Value} {s : State} (h : narrow_1.before args s = true) : ((Cond.not (Cond.eq (Term.string "PulledJersey$LawReader" (91 : Nat)) (Term.string "PulledJersey$LawReader" (101 : Nat)))) : Cond).before args s = true := pj_a1 (pj_a1 (pj_a1 (pj_a2 (pj_a2 (pj_a1 (pj_a1 (pj_a1 h)))))))
theorem nw_106 {args : Array Value} {s : State} (h : narrow_1.before args s = true) : ((Cond.not (Cond.eq (Term.string "PulledJersey$LawReader" (91 : Nat)) (Term.string "PulledJersey$LawReader" (103 : Nat)))) : Cond).before args s = true := pj_a2 (pj_a2 (pj_a1 (pj_a2 (pj_a2 (pj_a2 (pj_a1 (pj_a1 (pj_a1 h))))))))
theorem nw_107 {args : Array Value} {s : State} (h : narrow_1.before args s = true) : ((Cond.not (Cond.eq (Term.string "PulledJersey$LawReader" (91 : Nat)) (Term.string "PulledJersey$LawReader" (108 : Nat)))) : Cond).before args s = true := pj_a1 (pj_a1 (pj_a1 (pj_a2 (pj_a1 (pj_a1 (pj_a2 (pj_a1 (pj_a1 h))))))))
theorem nw_108 {args : Array Value} {s : State} (h : narrow_1.before args s = true) : ((Cond.not (Cond.eq (Term.string "PulledJersey$LawReader" (91 : Nat)) (Term.string "PulledJersey$LawReader" (110 : Nat)))) : Cond).before args s = true := pj_a2 (pj_a1 (pj_a2 (pj_a1 (pj_a2 (pj_a1 (pj_a2 (pj_a1 (pj_a1 h))))))))
theorem nw_109 {args : Array Value} {s : State} (h : narrow_1.before args s = true) : ((Cond.not (Cond.eq (Term.string "PulledJersey$LawReader" (91 : Nat)) (Term.string "PulledJersey$LawReader" (112 : Nat)))) : Cond).before args s = true := pj_a1 (pj_a2 (pj_a2 (pj_a1 (pj_a1 (pj_a2 (pj_a2 (pj_a1 (pj_a1 h))))))))
theorem nw_110 {args : Array Value} {s : State} (h : narrow_1.before args s = true) : ((Cond.not (Cond.eq (Term.string "PulledJersey$LawReader" (91 : Nat)) (Term.string "PulledJersey$LawReader" (114 : Nat)))) : Cond).before args s = true := pj_a1 (pj_a1 (pj_a1 (pj_a2 (pj_a2 (pj_a2 (pj_a2 (pj_a1 (pj_a1 h))))))))
theorem nw_111 {args : Array Value} {s : State} (h : narrow_1.before args s = true) : ((Cond.not (Cond.eq (Term.string "PulledJersey$LawReader" (91 : Nat)) (Term.string "PulledJersey$LawReader" (116 : Nat)))) : Cond).before args s = true := pj_a1 (pj_a2 (pj_a1 (pj_a2 (pj_a1 (pj_a1 (pj_a1 (pj_a2 (pj_a1 h))))))))
theorem nw_112 {args : Array Value} {s : State} (h : narrow_1.before args s = true) : ((Cond.not (Cond.eq (Term.string "PulledJersey$LawReader" (91 : Nat)) (Term.string "PulledJersey$LawReader" (118 : Nat)))) : Cond).before args s = true := pj_a1 (pj_a1 (pj_a2 (pj_a2 (pj_a2 (pj_a1 (pj_a1 (pj_a2 (pj_a1 h))))))))
theorem nw_113 {args : Array Value} {s : State} (h : narrow_1.before args s = true) : ((Cond.not (Cond.eq (Term.string "PulledJersey$LawReader" (91 : Nat)) (Term.string "PulledJersey$LawReader" (120 : Nat)))) : Cond).before args s = true := pj_a2 (pj_a2 (pj_a2 (pj_a2 (pj_a1 (pj_a2 (pj_a1 (pj_a2 (pj_a1 h))))))))
theorem nw_114 {args : Array Value} {s : State} (h : narrow_1.before args s = true) : ((Cond.not (Cond.eq (Term.string "PulledJersey$LawReader" (97 : Nat)) (Term.string "PulledJersey$LawReader" (99 : Nat)))) : Cond).before args s = true := pj_a1 (pj_a1 (pj_a1 (pj_a2 (pj_a1 (pj_a2 (pj_a1 (pj_a1 (pj_a1 h))))))))
theorem nw_115 {args : Array Value} {s : State} (h : narrow_1.before args s = true) : ((Cond.not (Cond.eq (Term.string "PulledJersey$LawReader" (97 : Nat)) (Term.string "PulledJersey$LawReader" (101 : Nat)))) : Cond).before args s = true := pj_a1 (pj_a2 (pj_a1 (pj_a1 (pj_a2 (pj_a2 (pj_a1 (pj_a1 (pj_a1 h))))))))
theorem nw_116 {args : Array Value} {s : State} (h : narrow_1.before args s = true) : ((Cond.not (Cond.eq (Term.string "PulledJersey$LawReader" (97 : Nat)) (Term.string "PulledJersey$LawReader" (103 : Nat)))) : Cond).before args s = true := pj_a1 (pj_a1 (pj_a2 (pj_a2 (pj_a2 (pj_a2 (pj_a1 (pj_a1 (pj_a1 h))))))))
theorem nw_117 {args : Array Value} {s : State} (h : narrow_1.before args s = true) : ((Cond.not (Cond.eq (Term.string "PulledJersey$LawReader" (97 : Nat)) (Term.string "PulledJersey$LawReader" (108 : Nat)))) : Cond).before args s = true := pj_a2 (pj_a1 (pj_a1 (pj_a2 (pj_a1 (pj_a1 (pj_a2 (pj_a1 (pj_a1 h))))))))
theorem nw_118 {args : Array Value} {s : State} (h : narrow_1.before args s = true) : ((Cond.not (Cond.eq (Term.string "PulledJersey$LawReader" (97 : Nat)) (Term.string "PulledJersey$LawReader" (110 : Nat)))) : Cond).before args s = true := pj_a1 (pj_a2 (pj_a2 (pj_a1 (pj_a2 (pj_a1 (pj_a2 (pj_a1 (pj_a1 h))))))))
theorem nw_119 {args : Array Value} {s : State} (h : narrow_1.before args s = true) : ((Cond.not (Cond.eq (Term.string "PulledJersey$LawReader" (97 : Nat)) (Term.string "PulledJersey$LawReader" (112 : Nat)))) : Cond).before args s = true := pj_a2 (pj_a2 (pj_a2 (pj_a1 (pj_a1 (pj_a2 (pj_a2 (pj_a1 (pj_a1 h))))))))
theorem nw_120 {args : Array Value} {s : State} (h : narrow_1.before args s = true) : ((Cond.not (Cond.eq (Term.string "PulledJersey$LawReader" (97 : Nat)) (Term.string "PulledJersey$LawReader" (114 : Nat)))) : Cond).before args s = true := pj_a2 (pj_a1 (pj_a1 (pj_a2 (pj_a2 (pj_a2 (pj_a2 (pj_a1 (pj_a1 h))))))))
theorem nw_121 {args : Array Value} {s : State} (h : narrow_1.before args s = true) : ((Cond.not (Cond.eq (Term.string "PulledJersey$LawReader" (97 : Nat)) (Term.string "PulledJersey$LawReader" (116 : Nat)))) : Cond).before args s = true := pj_a2 (pj_a2 (pj_a1 (pj_a2 (pj_a1 (pj_a1 (pj_a1 (pj_a2 (pj_a1 h))))))))
theorem nw_122 {args : Array Value} {s : State} (h : narrow_1.before args s = true) : ((Cond.not (Cond.eq (Term.string "PulledJersey$LawReader" (97 : Nat)) (Term.string "PulledJersey$LawReader" (118 : Nat)))) : Cond).before args s = true := pj_a2 (pj_a1 (pj_a2 (pj_a2 (pj_a2 (pj_a1 (pj_a1 (pj_a2 (pj_a1 h))))))))
theorem nw_123 {args : Array Value} {s : State} (h : narrow_1.before args s = true) : ((Cond.not (Cond.eq (Term.string "PulledJersey$LawReader" (97 : Nat)) (Term.string "PulledJersey$LawReader" (120 : Nat)))) : Cond).before args s = true := pj_a1 (pj_a1 (pj_a1 (pj_a2 (pj_a2 (pj_a1 (pj_a2 (pj_a1 h)))))))
theorem nw_124 {args : Array Value} {s : State} (h : narrow_1.before args s = true) : ((Cond.not (Cond.eq (Term.string "PulledJersey$LawReader" (99 : Nat)) (Term.string "PulledJersey$LawReader" (101 : Nat)))) : Cond).before args s = true := pj_a2 (pj_a2 (pj_a1 (pj_a1 (pj_a2 (pj_a2 (pj_a1 (pj_a1 (pj_a1 h))))))))
theorem nw_125 {args : Array Value} {s : State} (h : narrow_1.before args s = true) : ((Cond.not (Cond.eq (Term.string "PulledJersey$LawReader" (99 : Nat)) (Term.string "PulledJersey$LawReader" (103 : Nat)))) : Cond).before args s = true := pj_a2 (pj_a1 (pj_a2 (pj_a2 (pj_a2 (pj_a2 (pj_a1 (pj_a1 (pj_a1 h))))))))
theorem nw_126 {args : Array Value} {s : State} (h : narrow_1.before args s = true) : ((Cond.not (Cond.eq (Term.string "PulledJersey$LawReader" (99 : Nat)) (Term.string "PulledJersey$LawReader" (108 : Nat)))) : Cond).before args s = true := pj_a1 (pj_a2 (pj_a1 (pj_a2 (pj_a1 (pj_a1 (pj_a2 (pj_a1 (pj_a1 h))))))))
theorem nw_127 {args : Array Value} {s : State} (h : narrow_1.before args s = true) : ((Cond.not (Cond.eq (Term.string "PulledJersey$LawReader" (99 : Nat)) (Term.string "PulledJersey$LawReader" (110 : Nat)))) : Cond).before args s = true := pj_a2 (pj_a2 (pj_a2 (pj_a1 (pj_a2 (pj_a1 (pj_a2 (pj_a1 (pj_a1 h))))))))
theorem nw_128 {args : Array Value} {s : State} (h : narrow_1.before args s = true) : ((Cond.not (Cond.eq (Term.string "PulledJersey$LawReader" (99 : Nat)) (Term.string "PulledJersey$LawReader" (112 : Nat)))) : Cond).before args s = true := pj_a1 (pj_a1 (pj_a1 (pj_a2 (pj_a1 (pj_a2 (pj_a2 (pj_a1 (pj_a1 h))))))))
theorem nw_129 {args : Array Value} {s : State} (h : narrow_1.before args s = true) : ((Cond.not (Cond.eq (Term.string "PulledJersey$LawReader" (99 : Nat)) (Term.string "PulledJersey$LawReader" (114 : Nat)))) : Cond).before args s = true := pj_a1 (pj_a2 (pj_a1 (pj_a2 (pj_a2 (pj_a2 (pj_a2 (pj_a1 (pj_a1 h))))))))
theorem nw_130 {args : Array Value} {s : State} (h : narrow_1.before args s = true) : ((Cond.not (Cond.eq (Term.string "PulledJersey$LawReader" (99 : Nat)) (Term.string "PulledJersey$LawReader" (116 : Nat)))) : Cond).before args s = true := pj_a1 (pj_a1 (pj_a2 (pj_a2 (pj_a1 (pj_a1 (pj_a1 (pj_a2 (pj_a1 h))))))))
theorem nw_131 {args : Array Value} {s : State} (h : narrow_1.before args s = true) : ((Cond.not (Cond.eq (Term.string "PulledJersey$LawReader" (99 : Nat)) (Term.string "PulledJersey$LawReader" (118 : Nat)))) : Cond).before args s = true := pj_a1 (pj_a2 (pj_a2 (pj_a2 (pj_a2 (pj_a1 (pj_a1 (pj_a2 (pj_a1 h))))))))
theorem nw_132 {args : Array Value} {s : State} (h : narrow_1.before args s = true) : ((Cond.not (Cond.eq (Term.string "PulledJersey$LawReader" (99 : Nat)) (Term.string "PulledJersey$LawReader" (120 : Nat)))) : Cond).before args s = true := pj_a1 (pj_a2 (pj_a1 (pj_a1 (pj_a2 (pj_a2 (pj_a1 (pj_a2 (pj_a1 h))))))))
theorem nw_133 {args : Array Value} {s : State} (h : narrow_1.before args s = true) : ((Cond.not (Cond.eq (Term.string "PulledJersey$LawReader" (101 : Nat)) (Term.string "PulledJersey$LawReader" (103 : Nat)))) : Cond).before args s = true := pj_a1 (pj_a2 (pj_a2 (pj_a2 (pj_a2 (pj_a2 (pj_a1 (pj_a1 (pj_a1 h))))))))
theorem nw_134 {args : Array Value} {s : State} (h : narrow_1.before args s = true) : ((Cond.not (Cond.eq (Term.string "PulledJersey$LawReader" (101 : Nat)) (Term.string "PulledJersey$LawReader" (108 : Nat)))) : Cond).before args s = true := pj_a2 (pj_a2 (pj_a1 (pj_a2 (pj_a1 (pj_a1 (pj_a2 (pj_a1 (pj_a1 h))))))))
theorem nw_135 {args : Array Value} {s : State} (h : narrow_1.before args s = true) : ((Cond.not (Cond.eq (Term.string "PulledJersey$LawReader" (101 : Nat)) (Term.string "PulledJersey$LawReader" (110 : Nat)))) : Cond).before args s = true := pj_a1 (pj_a1 (pj_a1 (pj_a2 (pj_a2 (pj_a1 (pj_a2 (pj_a1 (pj_a1 h))))))))
theorem nw_136 {args : Array Value} {s : State} (h : narrow_1.before args s = true) : ((Cond.not (Cond.eq (Term.string "PulledJersey$LawReader" (101 : Nat)) (Term.string "PulledJersey$LawReader" (112 : Nat)))) : Cond).before args s = true := pj_a2 (pj_a1 (pj_a1 (pj_a2 (pj_a1 (pj_a2 (pj_a2 (pj_a1 (pj_a1 h))))))))
theorem nw_137 {args : Array Value} {s : State} (h : narrow_1.before args s = true) : ((Cond.not (Cond.eq (Term.string "PulledJersey$LawReader" (101 : Nat)) (Term.string "PulledJersey$LawReader" (114 : Nat)))) : Cond).before args s = true := pj_a2 (pj_a2 (pj_a1 (pj_a2 (pj_a2 (pj_a2 (pj_a2 (pj_a1 (pj_a1 h))))))))
theorem nw_138 {args : Array Value} {s : State} (h : narrow_1.before args s = true) : ((Cond.not (Cond.eq (Term.string "PulledJersey$LawReader" (101 : Nat)) (Term.string "PulledJersey$LawReader" (116 : Nat)))) : Cond).before args s = true := pj_a2 (pj_a1 (pj_a2 (pj_a2 (pj_a1 (pj_a1 (pj_a1 (pj_a2 (pj_a1 h))))))))
theorem nw_139 {args : Array Value} {s : State} (h : narrow_1.before args s = true) : ((Cond.not (Cond.eq (Term.string "PulledJersey$LawReader" (101 : Nat)) (Term.string "PulledJersey$LawReader" (118 : Nat)))) : Cond).before args s = true := pj_a2 (pj_a2 (pj_a2 (pj_a2 (pj_a2 (pj_a1 (pj_a1 (pj_a2 (pj_a1 h))))))))
theorem nw_140 {args : Array Value} {s : State} (h : narrow_1.before args s = true) : ((Cond.not (Cond.eq (Term.string "PulledJersey$LawReader" (101 : Nat)) (Term.string "PulledJersey$LawReader" (120 : Nat)))) : Cond).before args s = true := pj_a2 (pj_a2 (pj_a1 (pj_a1 (pj_a2 (pj_a2 (pj_a1 (pj_a2 (pj_a1 h))))))))
theorem nw_141 {args : Array Value} {s : State} (h : narrow_1.before args s = true) : ((Cond.not (Cond.eq (Term.string "PulledJersey$LawReader" (103 : Nat)) (Term.string "PulledJersey$LawReader" (108 : Nat)))) : Cond).before args s = true := pj_a1 (pj_a1 (pj_a2 (pj_a2 (pj_a1 (pj_a1 (pj_a2 (pj_a1 (pj_a1 h))))))))
theorem nw_142 {args : Array Value} {s : State} (h : narrow_1.before args s = true) : ((Cond.not (Cond.eq (Term.string "PulledJersey$LawReader" (103 : Nat)) (Term.string "PulledJersey$LawReader" (110 : Nat)))) : Cond).before args s = true := pj_a2 (pj_a1 (pj_a1 (pj_a2 (pj_a2 (pj_a1 (pj_a2 (pj_a1 (pj_a1 h))))))))
theorem nw_143 {args : Array Value} {s : State} (h : narrow_1.before args s = true) : ((Cond.not (Cond.eq (Term.string "PulledJersey$LawReader" (103 : Nat)) (Term.string "PulledJersey$LawReader" (112 : Nat)))) : Cond).before args s = true := pj_a1 (pj_a2 (pj_a1 (pj_a2 (pj_a1 (pj_a2 (pj_a2 (pj_a1 (pj_a1 h))))))))
theorem nw_144 {args : Array Value} {s : State} (h : narrow_1.before args s = true) : ((Cond.not (Cond.eq (Term.string "PulledJersey$LawReader" (103 : Nat)) (Term.string "PulledJersey$LawReader" (114 : Nat)))) : Cond).before args s = true := pj_a1 (pj_a1 (pj_a2 (pj_a2 (pj_a2 (pj_a2 (pj_a2 (pj_a1 (pj_a1 h))))))))
theorem nw_145 {args : Array Value} {s : State} (h : narrow_1.before args s = true) : ((Cond.not (Cond.eq (Term.string "PulledJersey$LawReader" (103 : Nat)) (Term.string "PulledJersey$LawReader" (116 : Nat)))) : Cond).before args s = true := pj_a1 (pj_a2 (pj_a2 (pj_a2 (pj_a1 (pj_a1 (pj_a1 (pj_a2 (pj_a1 h))))))))
theorem nw_146 {args : Array Value} {s : State} (h : narrow_1.before args s = true) : ((Cond.not (Cond.eq (Term.string "PulledJersey$LawReader" (103 : Nat)) (Term.string "PulledJersey$LawReader" (118 : Nat)))) : Cond).before args s = true := pj_a1 (pj_a1 (pj_a1 (pj_a1 (pj_a2 (pj_a1 (pj_a2 (pj_a1 h)))))))
theorem nw_147 {args : Array Value} {s : State} (h : narrow_1.before args s = true) : ((Cond.not (Cond.eq (Term.string "PulledJersey$LawReader" (103 : Nat)) (Term.string "PulledJersey$LawReader" (120 : Nat)))) : Cond).before args s = true := pj_a1 (pj_a1 (pj_a2 (pj_a1 (pj_a2 (pj_a2 (pj_a1 (pj_a2 (pj_a1 h))))))))
theorem nw_148 {args : Array Value} {s : State} (h : narrow_1.before args s = true) : ((Cond.not (Cond.eq (Term.string "PulledJersey$LawReader" (108 : Nat)) (Term.string "PulledJersey$LawReader" (110 : Nat)))) : Cond).before args s = true := pj_a1 (pj_a2 (pj_a1 (pj_a2 (pj_a2 (pj_a1 (pj_a2 (pj_a1 (pj_a1 h))))))))
theorem nw_149 {args : Array Value} {s : State} (h : narrow_1.before args s = true) : ((Cond.not (Cond.eq (Term.string "PulledJersey$LawReader" (108 : Nat)) (Term.string "PulledJersey$LawReader" (112 : Nat)))) : Cond).before args s = true := pj_a2 (pj_a2 (pj_a1 (pj_a2 (pj_a1 (pj_a2 (pj_a2 (pj_a1 (pj_a1 h))))))))
theorem nw_150 {args : Array Value} {s : State} (h : narrow_1.before args s = true) : ((Cond.not (Cond.eq (Term.string "PulledJersey$LawReader" (108 : Nat)) (Term.string "PulledJersey$LawReader" (114 : Nat)))) : Cond).before args s = true := pj_a2 (pj_a1 (pj_a2 (pj_a2 (pj_a2 (pj_a2 (pj_a2 (pj_a1 (pj_a1 h))))))))
theorem nw_151 {args : Array Value} {s : State} (h : narrow_1.before args s = true) : ((Cond.not (Cond.eq (Term.string "PulledJersey$LawReader" (108 : Nat)) (Term.string "PulledJersey$LawReader" (116 : Nat)))) : Cond).before args s = true := pj_a2 (pj_a2 (pj_a2 (pj_a2 (pj_a1 (pj_a1 (pj_a1 (pj_a2 (pj_a1 h))))))))
theorem nw_152 {args : Array Value} {s : State} (h : narrow_1.before args s = true) : ((Cond.not (Cond.eq (Term.string "PulledJersey$LawReader" (108 : Nat)) (Term.string "PulledJersey$LawReader" (118 : Nat)))) : Cond).before args s = true := pj_a1 (pj_a2 (pj_a1 (pj_a1 (pj_a1 (pj_a2 (pj_a1 (pj_a2 (pj_a1 h))))))))
theorem nw_153 {args : Array Value} {s : State} (h : narrow_1.before args s = true) : ((Cond.not (Cond.eq (Term.string "PulledJersey$LawReader" (108 : Nat)) (Term.string "PulledJersey$LawReader" (120 : Nat)))) : Cond).before args s = true := pj_a2 (pj_a1 (pj_a2 (pj_a1 (pj_a2 (pj_a2 (pj_a1 (pj_a2 (pj_a1 h))))))))
theorem nw_154 {args : Array Value} {s : State} (h : narrow_1.before args s = true) : ((Cond.not (Cond.eq (Term.string "PulledJersey$LawReader" (110 : Nat)) (Term.string "PulledJersey$LawReader" (112 : Nat)))) : Cond).before args s = true := pj_a1 (pj_a1 (pj_a2 (pj_a2 (pj_a1 (pj_a2 (pj_a2 (pj_a1 (pj_a1 h))))))))
theorem nw_155 {args : Array Value} {s : State} (h : narrow_1.before args s = true) : ((Cond.not (Cond.eq (Term.string "PulledJersey$LawReader" (110 : Nat)) (Term.string "PulledJersey$LawReader" (114 : Nat)))) : Cond).before args s = true := pj_a1 (pj_a2 (pj_a2 (pj_a2 (pj_a2 (pj_a2 (pj_a2 (pj_a1 (pj_a1 h))))))))
theorem nw_156 {args : Array Value} {s : State} (h : narrow_1.before args s = true) : ((Cond.not (Cond.eq (Term.string "PulledJersey$LawReader" (110 : Nat)) (Term.string "PulledJersey$LawReader" (116 : Nat)))) : Cond).before args s = true := pj_a1 (pj_a1 (pj_a1 (pj_a2 (pj_a1 (pj_a1 (pj_a2 (pj_a1 h)))))))
theorem nw_157 {args : Array Value} {s : State} (h : narrow_1.before args s = true) : ((Cond.not (Cond.eq (Term.string "PulledJersey$LawReader" (110 : Nat)) (Term.string "PulledJersey$LawReader" (118 : Nat)))) : Cond).before args s = true := pj_a2 (pj_a2 (pj_a1 (pj_a1 (pj_a1 (pj_a2 (pj_a1 (pj_a2 (pj_a1 h))))))))
theorem nw_158 {args : Array Value} {s : State} (h : narrow_1.before args s = true) : ((Cond.not (Cond.eq (Term.string "PulledJersey$LawReader" (110 : Nat)) (Term.string "PulledJersey$LawReader" (120 : Nat)))) : Cond).before args s = true := pj_a1 (pj_a2 (pj_a2 (pj_a1 (pj_a2 (pj_a2 (pj_a1 (pj_a2 (pj_a1 h))))))))
theorem nw_159 {args : Array Value} {s : State} (h : narrow_1.before args s = true) : ((Cond.not (Cond.eq (Term.string "PulledJersey$LawReader" (112 : Nat)) (Term.string "PulledJersey$LawReader" (114 : Nat)))) : Cond).before args s = true := pj_a2 (pj_a2 (pj_a2 (pj_a2 (pj_a2 (pj_a2 (pj_a2 (pj_a1 (pj_a1 h))))))))
theorem nw_160 {args : Array Value} {s : State} (h : narrow_1.before args s = true) : ((Cond.not (Cond.eq (Term.string "PulledJersey$LawReader" (112 : Nat)) (Term.string "PulledJersey$LawReader" (116 : Nat)))) : Cond).before args s = true := pj_a1 (pj_a2 (pj_a1 (pj_a1 (pj_a2 (pj_a1 (pj_a1 (pj_a2 (pj_a1 h))))))))
theorem nw_161 {args : Array Value} {s : State} (h : narrow_1.before args s = true) : ((Cond.not (Cond.eq (Term.string "PulledJersey$LawReader" (112 : Nat)) (Term.string "PulledJersey$LawReader" (118 : Nat)))) : Cond).before args s = true := pj_a1 (pj_a1 (pj_a2 (pj_a1 (pj_a1 (pj_a2 (pj_a1 (pj_a2 (pj_a1 h))))))))
theorem nw_162 {args : Array Value} {s : State} (h : narrow_1.before args s = true) : ((Cond.not (Cond.eq (Term.string "PulledJersey$LawReader" (112 : Nat)) (Term.string "PulledJersey$LawReader" (120 : Nat)))) : Cond).before args s = true := pj_a2 (pj_a2 (pj_a2 (pj_a1 (pj_a2 (pj_a2 (pj_a1 (pj_a2 (pj_a1 h))))))))
theorem nw_163 {args : Array Value} {s : State} (h : narrow_1.before args s = true) : ((Cond.not (Cond.eq (Term.string "PulledJersey$LawReader" (114 : Nat)) (Term.string "PulledJersey$LawReader" (116 : Nat)))) : Cond).before args s = true := pj_a2 (pj_a2 (pj_a1 (pj_a1 (pj_a2 (pj_a1 (pj_a1 (pj_a2 (pj_a1 h))))))))
theorem nw_164 {args : Array Value} {s : State} (h : narrow_1.before args s = true) : ((Cond.not (Cond.eq (Term.string "PulledJersey$LawReader" (114 : Nat)) (Term.string "PulledJersey$LawReader" (118 : Nat)))) : Cond).before args s = true := pj_a2 (pj_a1 (pj_a2 (pj_a1 (pj_a1 (pj_a2 (pj_a1 (pj_a2 (pj_a1 h))))))))
theorem nw_165 {args : Array Value} {s : State} (h : narrow_1.before args s = true) : ((Cond.not (Cond.eq (Term.string "PulledJersey$LawReader" (114 : Nat)) (Term.string "PulledJersey$LawReader" (120 : Nat)))) : Cond).before args s = true := pj_a1 (pj_a1 (pj_a1 (pj_a2 (pj_a2 (pj_a2 (pj_a1 (pj_a2 (pj_a1 h))))))))
theorem nw_166 {args : Array Value} {s : State} (h : narrow_1.before args s = true) : ((Cond.not (Cond.eq (Term.string "PulledJersey$LawReader" (116 : Nat)) (Term.string "PulledJersey$LawReader" (118 : Nat)))) : Cond).before args s = true := pj_a1 (pj_a2 (pj_a2 (pj_a1 (pj_a1 (pj_a2 (pj_a1 (pj_a2 (pj_a1 h))))))))
theorem nw_167 {args : Array Value} {s : State} (h : narrow_1.before args s = true) : ((Cond.not (Cond.eq (Term.string "PulledJersey$LawReader" (116 : Nat)) (Term.string "PulledJersey$LawReader" (120 : Nat)))) : Cond).before args s = true := pj_a2 (pj_a1 (pj_a1 (pj_a2 (pj_a2 (pj_a2 (pj_a1 (pj_a2 (pj_a1 h))))))))
theorem nw_168 {args : Array Value} {s : State} (h : narrow_1.before args s = true) : ((Cond.not (Cond.eq (Term.string "PulledJersey$LawReader" (118 : Nat)) (Term.string "PulledJersey$LawReader" (120 : Nat)))) : Cond).before args s = true := pj_a1 (pj_a2 (pj_a1 (pj_a2 (pj_a2 (pj_a2 (pj_a1 (pj_a2 (pj_a1 h))))))))
theorem nw_169 {args : Array Value} {s : State} (h : narrow_1.before args s = true) : ((Cond.eq (Term.string "PulledJersey$LawReader" (91 : Nat)) (Term.string "PulledJerseyModel" (125 : Nat))) : Cond).before args s = true := pj_a1 (pj_a2 (pj_a1 (pj_a2 (pj_a2 (pj_a1 (pj_a1 (pj_a1 (pj_a2 h))))))))
theorem nw_170 {args : Array Value} {s : State} (h : narrow_1.before args s = true) : ((Cond.eq (Term.string "PulledJersey$LawReader" (97 : Nat)) (Term.string "PulledJerseyModel" (117 : Nat))) : Cond).before args s = true := pj_a2 (pj_a1 (pj_a2 (pj_a1 (pj_a1 (pj_a1 (pj_a2 (pj_a2 (pj_a1 h))))))))
theorem nw_171 {args : Array Value} {s : State} (h : narrow_1.before args s = true) : ((Cond.eq (Term.string "PulledJersey$LawReader" (99 : Nat)) (Term.string "PulledJerseyModel" (119 : Nat))) : Cond).before args s = true := pj_a2 (pj_a1 (pj_a1 (pj_a2 (pj_a2 (pj_a1 (pj_a2 (pj_a2 (pj_a1 h))))))))
theorem nw_172 {args : Array Value} {s : State} (h : narrow_1.before args s = true) : ((Cond.eq (Term.string "PulledJersey$LawReader" (101 : Nat)) (Term.string "PulledJerseyModel" (121 : Nat))) : Cond).before args s = true := pj_a2 (pj_a2 (pj_a2 (pj_a2 (pj_a1 (pj_a2 (pj_a2 (pj_a2 (pj_a1 h))))))))
theorem nw_173 {args : Array Value} {s : State} (h : narrow_1.before args s = true) : ((Cond.eq (Term.string "PulledJersey$LawReader" (103 : Nat)) (Term.string "PulledJerseyModel" (123 : Nat))) : Cond).before args s = true := pj_a2 (pj_a2 (pj_a2 (pj_a1 (pj_a1 (pj_a1 (pj_a1 (pj_a1 (pj_a2 h))))))))
theorem nw_174 {args : Array Value} {s : State} (h : narrow_1.before args s = true) : ((Cond.eq (Term.string "PulledJersey$LawReader" (108 : Nat)) (Term.string "PulledJerseyModel" (99 : Nat))) : Cond).before args s = true := pj_a2 (pj_a1 (pj_a1 (pj_a2 (pj_a2 (pj_a2 (pj_a1 (pj_a1 (pj_a2 h))))))))
theorem nw_175 {args : Array Value} {s : State} (h : narrow_1.before args s = true) : ((Cond.eq (Term.string "PulledJersey$LawReader" (110 : Nat)) (Term.string "PulledJerseyModel" (105 : Nat))) : Cond).before args s = true := pj_a1 (pj_a1 (pj_a2 (pj_a1 (pj_a2 (pj_a1 (pj_a2 (pj_a1 (pj_a2 h))))))))
theorem nw_176 {args : Array Value} {s : State} (h : narrow_1.before args s = true) : ((Cond.eq (Term.string "PulledJersey$LawReader" (112 : Nat)) (Term.string "PulledJerseyModel" (107 : Nat))) : Cond).before args s = true := pj_a2 (pj_a2 (pj_a1 (pj_a1 (pj_a2 (pj_a2 (pj_a2 (pj_a1 (pj_a2 h))))))))
theorem nw_177 {args : Array Value} {s : State} (h : narrow_1.before args s = true) : ((Cond.eq (Term.string "PulledJersey$LawReader" (114 : Nat)) (Term.string "PulledJerseyModel" (109 : Nat))) : Cond).before args s = true := pj_a2 (pj_a2 (pj_a1 (pj_a1 (pj_a2 (pj_a1 (pj_a1 (pj_a2 (pj_a2 h))))))))
theorem nw_178 {args : Array Value} {s : State} (h : narrow_1.before args s = true) : ((Cond.eq (Term.string "PulledJersey$LawReader" (116 : Nat)) (Term.string "PulledJerseyModel" (111 : Nat))) : Cond).before args s = true := pj_a2 (pj_a2 (pj_a1 (pj_a1 (pj_a2 (pj_a2 (pj_a1 (pj_a2 (pj_a2 h))))))))
theorem nw_179 {args : Array Value} {s : State} (h : narrow_1.before args s = true) : ((Cond.eq (Term.string "PulledJersey$LawReader" (118 : Nat)) (Term.string "PulledJerseyModel" (113 : Nat))) : Cond).before args s = true := pj_a2 (pj_a2 (pj_a1 (pj_a1 (pj_a2 (pj_a1 (pj_a2 (pj_a2 (pj_a2 h))))))))
theorem nw_180 {args : Array Value} {s : State} (h : narrow_1.before args s = true) : ((Cond.eq (Term.string "PulledJersey$LawReader" (120 : Nat)) (Term.string "PulledJerseyModel" (115 : Nat))) : Cond).before args s = true := pj_a2 (pj_a2 (pj_a1 (pj_a1 (pj_a2 (pj_a2 (pj_a2 (pj_a2 (pj_a2 h))))))))
def pj_tm (i : Nat) : Term := .string "PulledJersey$LawReader" ([91, 97, 99, 101, 103, 108, 110, 112, 114, 116, 118, 120].getD i 0)
set_option maxHeartbeats 4000000 in
theorem pj_strs {args : Array Value} {s : State} (h : narrow_1.before args s = true) : ∃ adK adV : Nat → Nat, vk_S 12 pj_lenS pj_bytS adK adV (fun q => s.heap.size ≤ q) s s.heap ∧ ∀ i : Nat, i < 12 → (pj_tm i).eval args s none [] s = some (.ref (adK i)) := by
  refine vk_Sof (tm := pj_tm) pj_lenA (fun i hi => ?_) (fun i hi => ?_) (fun i hi => ?_) (fun i hi => ?_) (fun i hi j hj => ?_) (fun i j hi hj hij => ?_) (fun a ha => Nat.not_le.mpr ha)
  · match i, hi with
    | 0, _ => exact nw_8 h
    | 1, _ => exact nw_15 h
    | 2, _ => exact nw_23 h
    | 3, _ => exact nw_29 h
    | 4, _ => exact nw_36 h
    | 5, _ => exact nw_43 h
    | 6, _ => exact nw_51 h
    | 7, _ => exact nw_58 h
    | 8, _ => exact nw_68 h
    | 9, _ => exact nw_78 h
    | 10, _ => exact nw_87 h
    | 11, _ => exact nw_95 h
    | n + 12, hi => exact absurd hi (by omega)
  · match i, hi with
    | 0, _ => exact nw_9 h
    | 1, _ => exact nw_16 h
    | 2, _ => exact nw_24 h
    | 3, _ => exact nw_30 h
    | 4, _ => exact nw_37 h
    | 5, _ => exact nw_44 h
    | 6, _ => exact nw_52 h
    | 7, _ => exact nw_59 h
    | 8, _ => exact nw_69 h
    | 9, _ => exact nw_79 h
    | 10, _ => exact nw_88 h
    | 11, _ => exact nw_96 h
    | n + 12, hi => exact absurd hi (by omega)
  · match i, hi with
    | 0, _ => exact nw_10 h
    | 1, _ => exact nw_17 h
    | 2, _ => exact nw_25 h
    | 3, _ => exact nw_31 h
    | 4, _ => exact nw_38 h
    | 5, _ => exact nw_45 h
    | 6, _ => exact nw_53 h
    | 7, _ => exact nw_60 h
    | 8, _ => exact nw_70 h
    | 9, _ => exact nw_80 h
    | 10, _ => exact nw_89 h
    | 11, _ => exact nw_97 h
    | n + 12, hi => exact absurd hi (by omega)
  · match i, hi with
    | 0, _ => exact nw_11 h
    | 1, _ => exact nw_18 h
    | 2, _ => exact nw_26 h
    | 3, _ => exact nw_32 h
    | 4, _ => exact nw_39 h
    | 5, _ => exact nw_46 h
    | 6, _ => exact nw_54 h
    | 7, _ => exact nw_61 h
    | 8, _ => exact nw_71 h
    | 9, _ => exact nw_81 h
    | 10, _ => exact nw_90 h
    | 11, _ => exact nw_98 h
    | n + 12, hi => exact absurd hi (by omega)
  · match i, hi with
    | 0, _ =>
      match j, hj with
      | 0, _ => exact nw_12 h
      | 1, _ => exact nw_13 h
      | 2, _ => exact nw_14 h
      | n + 3, hj => exact absurd hj (by show ¬ n + 3 < 3; omega)
    | 1, _ =>
      match j, hj with
      | 0, _ => exact nw_19 h
      | 1, _ => exact nw_20 h
      | 2, _ => exact nw_21 h
      | 3, _ => exact nw_22 h
      | n + 4, hj => exact absurd hj (by show ¬ n + 4 < 4; omega)
    | 2, _ =>
      match j, hj with
      | 0, _ => exact nw_27 h
      | 1, _ => exact nw_28 h
      | n + 2, hj => exact absurd hj (by show ¬ n + 2 < 2; omega)
    | 3, _ =>
      match j, hj with
      | 0, _ => exact nw_33 h
      | 1, _ => exact nw_34 h
      | 2, _ => exact nw_35 h
      | n + 3, hj => exact absurd hj (by show ¬ n + 3 < 3; omega)
    | 4, _ =>
      match j, hj with
      | 0, _ => exact nw_40 h
      | 1, _ => exact nw_41 h
      | 2, _ => exact nw_42 h
      | n + 3, hj => exact absurd hj (by show ¬ n + 3 < 3; omega)
    | 5, _ =>
      match j, hj with
      | 0, _ => exact nw_47 h
      | 1, _ => exact nw_48 h
      | 2, _ => exact nw_49 h
      | 3, _ => exact nw_50 h
      | n + 4, hj => exact absurd hj (by show ¬ n + 4 < 4; omega)
    | 6, _ =>
      match j, hj with
      | 0, _ => exact nw_55 h
      | 1, _ => exact nw_56 h
      | 2, _ => exact nw_57 h
      | n + 3, hj => exact absurd hj (by show ¬ n + 3 < 3; omega)
    | 7, _ =>
      match j, hj with
      | 0, _ => exact nw_62 h
      | 1, _ => exact nw_63 h
      | 2, _ => exact nw_64 h
      | 3, _ => exact nw_65 h
      | 4, _ => exact nw_66 h
      | 5, _ => exact nw_67 h
      | n + 6, hj => exact absurd hj (by show ¬ n + 6 < 6; omega)
    | 8, _ =>
      match j, hj with
      | 0, _ => exact nw_72 h
      | 1, _ => exact nw_73 h
      | 2, _ => exact nw_74 h
      | 3, _ => exact nw_75 h
      | 4, _ => exact nw_76 h
      | 5, _ => exact nw_77 h
      | n + 6, hj => exact absurd hj (by show ¬ n + 6 < 6; omega)
    | 9, _ =>
      match j, hj with
      | 0, _ => exact nw_82 h
      | 1, _ => exact nw_83 h
      | 2, _ => exact nw_84 h
      | 3, _ => exact nw_85 h
      | 4, _ => exact nw_86 h
      | n + 5, hj => exact absurd hj (by show ¬ n + 5 < 5; omega)
    | 10, _ =>
      match j, hj with
      | 0, _ => exact nw_91 h
      | 1, _ => exact nw_92 h
      | 2, _ => exact nw_93 h
      | 3, _ => exact nw_94 h
      | n + 4, hj => exact absurd hj (by show ¬ n + 4 < 4; omega)
    | 11, _ =>
      match j, hj with
      | 0, _ => exact nw_99 h
      | 1, _ => exact nw_100 h
      | 2, _ => exact nw_101 h
      | 3, _ => exact nw_102 h
      | n + 4, hj => exact absurd hj (by show ¬ n + 4 < 4; omega)
    | n + 12, hi => exact absurd hi (by omega)
  · match i, hi with
    | 0, _ =>
      match j, hj with
      | 0, _ => exact absurd rfl hij
      | 1, _ => exact Or.inl (nw_103 h)
      | 2, _ => exact Or.inl (nw_104 h)
      | 3, _ => exact Or.inl (nw_105 h)
      | 4, _ => exact Or.inl (nw_106 h)
      | 5, _ => exact Or.inl (nw_107 h)
      | 6, _ => exact Or.inl (nw_108 h)
      | 7, _ => exact Or.inl (nw_109 h)
      | 8, _ => exact Or.inl (nw_110 h)
      | 9, _ => exact Or.inl (nw_111 h)
      | 10, _ => exact Or.inl (nw_112 h)
      | 11, _ => exact Or.inl (nw_113 h)
      | n + 12, hj => exact absurd hj (by omega)
    | 1, _ =>
      match j, hj with
      | 0, _ => exact Or.inr (nw_103 h)
      | 1, _ => exact absurd rfl hij
      | 2, _ => exact Or.inl (nw_114 h)
      | 3, _ => exact Or.inl (nw_115 h)
      | 4, _ => exact Or.inl (nw_116 h)
      | 5, _ => exact Or.inl (nw_117 h)
      | 6, _ => exact Or.inl (nw_118 h)
      | 7, _ => exact Or.inl (nw_119 h)
      | 8, _ => exact Or.inl (nw_120 h)
      | 9, _ => exact Or.inl (nw_121 h)
      | 10, _ => exact Or.inl (nw_122 h)
      | 11, _ => exact Or.inl (nw_123 h)
      | n + 12, hj => exact absurd hj (by omega)
    | 2, _ =>
      match j, hj with
      | 0, _ => exact Or.inr (nw_104 h)
      | 1, _ => exact Or.inr (nw_114 h)
      | 2, _ => exact absurd rfl hij
      | 3, _ => exact Or.inl (nw_124 h)
      | 4, _ => exact Or.inl (nw_125 h)
      | 5, _ => exact Or.inl (nw_126 h)
      | 6, _ => exact Or.inl (nw_127 h)
      | 7, _ => exact Or.inl (nw_128 h)
      | 8, _ => exact Or.inl (nw_129 h)
      | 9, _ => exact Or.inl (nw_130 h)
      | 10, _ => exact Or.inl (nw_131 h)
      | 11, _ => exact Or.inl (nw_132 h)
      | n + 12, hj => exact absurd hj (by omega)
    | 3, _ =>
      match j, hj with
      | 0, _ => exact Or.inr (nw_105 h)
      | 1, _ => exact Or.inr (nw_115 h)
      | 2, _ => exact Or.inr (nw_124 h)
      | 3, _ => exact absurd rfl hij
      | 4, _ => exact Or.inl (nw_133 h)
      | 5, _ => exact Or.inl (nw_134 h)
      | 6, _ => exact Or.inl (nw_135 h)
      | 7, _ => exact Or.inl (nw_136 h)
      | 8, _ => exact Or.inl (nw_137 h)
      | 9, _ => exact Or.inl (nw_138 h)
      | 10, _ => exact Or.inl (nw_139 h)
      | 11, _ => exact Or.inl (nw_140 h)
      | n + 12, hj => exact absurd hj (by omega)
    | 4, _ =>
      match j, hj with
      | 0, _ => exact Or.inr (nw_106 h)
      | 1, _ => exact Or.inr (nw_116 h)
      | 2, _ => exact Or.inr (nw_125 h)
      | 3, _ => exact Or.inr (nw_133 h)
      | 4, _ => exact absurd rfl hij
      | 5, _ => exact Or.inl (nw_141 h)
      | 6, _ => exact Or.inl (nw_142 h)
      | 7, _ => exact Or.inl (nw_143 h)
      | 8, _ => exact Or.inl (nw_144 h)
      | 9, _ => exact Or.inl (nw_145 h)
      | 10, _ => exact Or.inl (nw_146 h)
      | 11, _ => exact Or.inl (nw_147 h)
      | n + 12, hj => exact absurd hj (by omega)
    | 5, _ =>
      match j, hj with
      | 0, _ => exact Or.inr (nw_107 h)
      | 1, _ => exact Or.inr (nw_117 h)
      | 2, _ => exact Or.inr (nw_126 h)
      | 3, _ => exact Or.inr (nw_134 h)
      | 4, _ => exact Or.inr (nw_141 h)
      | 5, _ => exact absurd rfl hij
      | 6, _ => exact Or.inl (nw_148 h)
      | 7, _ => exact Or.inl (nw_149 h)
      | 8, _ => exact Or.inl (nw_150 h)
      | 9, _ => exact Or.inl (nw_151 h)
      | 10, _ => exact Or.inl (nw_152 h)
      | 11, _ => exact Or.inl (nw_153 h)
      | n + 12, hj => exact absurd hj (by omega)
    | 6, _ =>
      match j, hj with
      | 0, _ => exact Or.inr (nw_108 h)
      | 1, _ => exact Or.inr (nw_118 h)
      | 2, _ => exact Or.inr (nw_127 h)
      | 3, _ => exact Or.inr (nw_135 h)
      | 4, _ => exact Or.inr (nw_142 h)
      | 5, _ => exact Or.inr (nw_148 h)
      | 6, _ => exact absurd rfl hij
      | 7, _ => exact Or.inl (nw_154 h)
      | 8, _ => exact Or.inl (nw_155 h)
      | 9, _ => exact Or.inl (nw_156 h)
      | 10, _ => exact Or.inl (nw_157 h)
      | 11, _ => exact Or.inl (nw_158 h)
      | n + 12, hj => exact absurd hj (by omega)
    | 7, _ =>
      match j, hj with
      | 0, _ => exact Or.inr (nw_109 h)
      | 1, _ => exact Or.inr (nw_119 h)
      | 2, _ => exact Or.inr (nw_128 h)
      | 3, _ => exact Or.inr (nw_136 h)
      | 4, _ => exact Or.inr (nw_143 h)
      | 5, _ => exact Or.inr (nw_149 h)
      | 6, _ => exact Or.inr (nw_154 h)
      | 7, _ => exact absurd rfl hij
      | 8, _ => exact Or.inl (nw_159 h)
      | 9, _ => exact Or.inl (nw_160 h)
      | 10, _ => exact Or.inl (nw_161 h)
      | 11, _ => exact Or.inl (nw_162 h)
      | n + 12, hj => exact absurd hj (by omega)
    | 8, _ =>
      match j, hj with
      | 0, _ => exact Or.inr (nw_110 h)
      | 1, _ => exact Or.inr (nw_120 h)
      | 2, _ => exact Or.inr (nw_129 h)
      | 3, _ => exact Or.inr (nw_137 h)
      | 4, _ => exact Or.inr (nw_144 h)
      | 5, _ => exact Or.inr (nw_150 h)
      | 6, _ => exact Or.inr (nw_155 h)
      | 7, _ => exact Or.inr (nw_159 h)
      | 8, _ => exact absurd rfl hij
      | 9, _ => exact Or.inl (nw_163 h)
      | 10, _ => exact Or.inl (nw_164 h)
      | 11, _ => exact Or.inl (nw_165 h)
      | n + 12, hj => exact absurd hj (by omega)
    | 9, _ =>
      match j, hj with
      | 0, _ => exact Or.inr (nw_111 h)
      | 1, _ => exact Or.inr (nw_121 h)
      | 2, _ => exact Or.inr (nw_130 h)
      | 3, _ => exact Or.inr (nw_138 h)
      | 4, _ => exact Or.inr (nw_145 h)
      | 5, _ => exact Or.inr (nw_151 h)
      | 6, _ => exact Or.inr (nw_156 h)
      | 7, _ => exact Or.inr (nw_160 h)
      | 8, _ => exact Or.inr (nw_163 h)
      | 9, _ => exact absurd rfl hij
      | 10, _ => exact Or.inl (nw_166 h)
      | 11, _ => exact Or.inl (nw_167 h)
      | n + 12, hj => exact absurd hj (by omega)
    | 10, _ =>
      match j, hj with
      | 0, _ => exact Or.inr (nw_112 h)
      | 1, _ => exact Or.inr (nw_122 h)
      | 2, _ => exact Or.inr (nw_131 h)
      | 3, _ => exact Or.inr (nw_139 h)
      | 4, _ => exact Or.inr (nw_146 h)
      | 5, _ => exact Or.inr (nw_152 h)
      | 6, _ => exact Or.inr (nw_157 h)
      | 7, _ => exact Or.inr (nw_161 h)
      | 8, _ => exact Or.inr (nw_164 h)
      | 9, _ => exact Or.inr (nw_166 h)
      | 10, _ => exact absurd rfl hij
      | 11, _ => exact Or.inl (nw_168 h)
      | n + 12, hj => exact absurd hj (by omega)
    | 11, _ =>
      match j, hj with
      | 0, _ => exact Or.inr (nw_113 h)
      | 1, _ => exact Or.inr (nw_123 h)
      | 2, _ => exact Or.inr (nw_132 h)
      | 3, _ => exact Or.inr (nw_140 h)
      | 4, _ => exact Or.inr (nw_147 h)
      | 5, _ => exact Or.inr (nw_153 h)
      | 6, _ => exact Or.inr (nw_158 h)
      | 7, _ => exact Or.inr (nw_162 h)
      | 8, _ => exact Or.inr (nw_165 h)
      | 9, _ => exact Or.inr (nw_167 h)
      | 10, _ => exact Or.inr (nw_168 h)
      | 11, _ => exact absurd rfl hij
      | n + 12, hj => exact absurd hj (by omega)
    | n + 12, hi => exact absurd hi (by omega)
theorem pj_eqref {t1 t2 : Term} {args : Array Value} {s : State} {a : Nat} (h : (Cond.eq t1 t2).before args s = true) (h1 : t1.eval args s none [] s = some (.ref a)) : t2.eval args s none [] s = some (.ref a) := by
  cases h2 : t2.eval args s none [] s with
  | none => simp [Cond.before, Cond.holds, Cond.value, h1, h2] at h
  | some v => cases v <;> simp_all [Cond.before, Cond.holds, Cond.value]
theorem pj_l1 (i : Nat) {w : Cond} (h : tables_1_1[i]? = some w) : w ∈ lw_tbl := by
  have h := List.mem_of_getElem? h
  exact List.mem_append_right _ (List.mem_append_left _ h)
theorem pj_l2 (i : Nat) {w : Cond} (h : tables_1_2[i]? = some w) : w ∈ lw_tbl := by
  have h := List.mem_of_getElem? h
  exact List.mem_append_right _ (List.mem_append_right _ (List.mem_append_left _ h))
theorem pj_l3 (i : Nat) {w : Cond} (h : tables_1_3[i]? = some w) : w ∈ lw_tbl := by
  have h := List.mem_of_getElem? h
  exact List.mem_append_right _ (List.mem_append_right _ (List.mem_append_right _ (List.mem_append_left _ h)))
theorem pj_l4 (i : Nat) {w : Cond} (h : tables_1_4[i]? = some w) : w ∈ lw_tbl := by
  have h := List.mem_of_getElem? h
  exact List.mem_append_right _ (List.mem_append_right _ (List.mem_append_right _ (List.mem_append_right _ (List.mem_append_left _ h))))
theorem pj_l5 (i : Nat) {w : Cond} (h : tables_1_5[i]? = some w) : w ∈ lw_tbl := by
  have h := List.mem_of_getElem? h
  exact List.mem_append_right _ (List.mem_append_right _ (List.mem_append_right _ (List.mem_append_right _ (List.mem_append_right _ (List.mem_append_left _ h)))))
theorem pj_l6 (i : Nat) {w : Cond} (h : tables_1_6[i]? = some w) : w ∈ lw_tbl := by
  have h := List.mem_of_getElem? h
  exact List.mem_append_right _ (List.mem_append_right _ (List.mem_append_right _ (List.mem_append_right _ (List.mem_append_right _ (List.mem_append_right _ (h))))))
set_option maxHeartbeats 4000000 in
set_option maxRecDepth 100000 in
/-- what is static, at the law's entry -/
theorem pj_start {b : Nat} {s : State} (hts : ∀ w ∈ lw_tbl, w.before #[Value.ref b] s = true) (h : narrow_1.before #[Value.ref b] s = true) : ∃ (tK : Nat) (adK adV : Nat → Nat), ∀ (D : va_G) (ad : Nat → Nat) (cs : ClassId × ClassId × ClassId) (L : List pj_Y), pj_stat (D, ad, cs, L, tK, adK, adV) (fun q => s.heap.size ≤ q) s s.heap := by
  obtain ⟨adK, adV, hS, hev⟩ := pj_strs h
  have hA : ∀ a : Nat, a < s.heap.size → ¬ (fun q => s.heap.size ≤ q) a := fun a ha => Nat.not_le.mpr ha
  obtain ⟨tK, htK, hT⟩ := va_Tof (ty := .int) (N := 4) (f := fun j => .int (pj_lk.getD j 0)) (A := fun q => s.heap.size ≤ q) (by decide) (nw_0 h) (va_eqt (nw_1 h)) (fun j hj => by
    match j, hj with
    | 0, _ => exact va_eqt (nw_2 h)
    | 1, _ => exact va_eqt (nw_3 h)
    | 2, _ => exact va_eqt (nw_4 h)
    | 3, _ => exact va_eqt (nw_5 h)
    | n + 4, hj => exact absurd hj (by omega)) hA
  refine ⟨tK, adK, adV, fun D ad cs L => ⟨?_, ?_, ?_, hT, ?_, ?_, ?_, hS⟩⟩
  · intro q hq
    simp only [pj_nl, List.mem_cons, List.not_mem_nil, or_false] at hq
    rcases hq with rfl | rfl | rfl | rfl | rfl | rfl | rfl | rfl | rfl | rfl | rfl | rfl | rfl | rfl
    · exact va_Nw.of rfl (hts _ (pj_l1 30 rfl))
    · exact va_Nw.of rfl (hts _ (pj_l1 36 rfl))
    · exact va_Nw.of rfl (hts _ (pj_l1 88 rfl))
    · exact va_Nw.of rfl (hts _ (pj_l1 115 rfl))
    · exact va_Nw.of rfl (hts _ (pj_l1 137 rfl))
    · exact va_Nw.of rfl (hts _ (pj_l1 183 rfl))
    · exact va_Nw.of rfl (hts _ (pj_l1 219 rfl))
    · exact va_Nw.of rfl (hts _ (pj_l1 234 rfl))
    · exact va_Nw.of rfl (hts _ (pj_l2 33 rfl))
    · exact va_Nw.of rfl (hts _ (pj_l2 61 rfl))
    · exact va_Nw.of rfl (hts _ (pj_l2 82 rfl))
    · exact va_Nw.of rfl (hts _ (pj_l2 142 rfl))
    · exact va_Nw.of rfl (hts _ (pj_l2 215 rfl))
    · exact va_Nw.of rfl (hts _ (pj_l3 24 rfl))
  · exact va_Nw.of rfl (hts _ (pj_l3 1 rfl))
  · exact va_Zref (hts _ (pj_l3 2 rfl)) (hts _ (pj_l1 1 rfl)) htK hA
  · exact va_Zof (hts _ (pj_l3 148 rfl)) (hts _ (pj_l1 15 rfl)) (va_eqt (nw_6 h)) hA
  · exact va_Zqof (hts _ (pj_l3 164 rfl)) (hts _ (pj_l1 17 rfl)) (nw_7 h) hA
  · intro q hq
    simp only [pj_sl, List.mem_cons, List.not_mem_nil, or_false] at hq
    rcases hq with rfl | rfl | rfl | rfl | rfl | rfl | rfl | rfl | rfl | rfl | rfl | rfl | rfl | rfl | rfl | rfl | rfl | rfl | rfl | rfl | rfl | rfl | rfl | rfl
    · exact vk_R.of (A := #[Value.ref b]) (hts _ (pj_l3 134 rfl)) (hev 0 (by decide))
    · exact vk_R.of (A := #[Value.ref b]) (hts _ (pj_l3 187 rfl)) (hev 1 (by decide))
    · exact vk_R.of (A := #[Value.ref b]) (hts _ (pj_l3 188 rfl)) (hev 2 (by decide))
    · exact vk_R.of (A := #[Value.ref b]) (hts _ (pj_l3 189 rfl)) (hev 3 (by decide))
    · exact vk_R.of (A := #[Value.ref b]) (hts _ (pj_l3 190 rfl)) (hev 4 (by decide))
    · exact vk_R.of (A := #[Value.ref b]) (hts _ (pj_l3 194 rfl)) (hev 5 (by decide))
    · exact vk_R.of (A := #[Value.ref b]) (hts _ (pj_l3 195 rfl)) (hev 6 (by decide))
    · exact vk_R.of (A := #[Value.ref b]) (hts _ (pj_l3 196 rfl)) (hev 7 (by decide))
    · exact vk_R.of (A := #[Value.ref b]) (hts _ (pj_l3 197 rfl)) (hev 8 (by decide))
    · exact vk_R.of (A := #[Value.ref b]) (hts _ (pj_l3 198 rfl)) (hev 9 (by decide))
    · exact vk_R.of (A := #[Value.ref b]) (hts _ (pj_l3 199 rfl)) (hev 10 (by decide))
    · exact vk_R.of (A := #[Value.ref b]) (hts _ (pj_l3 200 rfl)) (hev 11 (by decide))
    · exact vk_R.of (A := #[Value.ref b]) (hts _ (pj_l5 101 rfl)) (pj_eqref (nw_170 h) (hev 1 (by decide)))
    · exact vk_R.of (A := #[Value.ref b]) (hts _ (pj_l5 108 rfl)) (pj_eqref (nw_171 h) (hev 2 (by decide)))
    · exact vk_R.of (A := #[Value.ref b]) (hts _ (pj_l5 109 rfl)) (pj_eqref (nw_172 h) (hev 3 (by decide)))
    · exact vk_R.of (A := #[Value.ref b]) (hts _ (pj_l5 110 rfl)) (pj_eqref (nw_173 h) (hev 4 (by decide)))
    · exact vk_R.of (A := #[Value.ref b]) (hts _ (pj_l5 111 rfl)) (pj_eqref (nw_169 h) (hev 0 (by decide)))
    · exact vk_R.of (A := #[Value.ref b]) (hts _ (pj_l5 116 rfl)) (pj_eqref (nw_174 h) (hev 5 (by decide)))
    · exact vk_R.of (A := #[Value.ref b]) (hts _ (pj_l5 117 rfl)) (pj_eqref (nw_175 h) (hev 6 (by decide)))
    · exact vk_R.of (A := #[Value.ref b]) (hts _ (pj_l5 118 rfl)) (pj_eqref (nw_176 h) (hev 7 (by decide)))
    · exact vk_R.of (A := #[Value.ref b]) (hts _ (pj_l5 119 rfl)) (pj_eqref (nw_177 h) (hev 8 (by decide)))
    · exact vk_R.of (A := #[Value.ref b]) (hts _ (pj_l5 120 rfl)) (pj_eqref (nw_178 h) (hev 9 (by decide)))
    · exact vk_R.of (A := #[Value.ref b]) (hts _ (pj_l5 121 rfl)) (pj_eqref (nw_179 h) (hev 10 (by decide)))
    · exact vk_R.of (A := #[Value.ref b]) (hts _ (pj_l5 122 rfl)) (pj_eqref (nw_180 h) (hev 11 (by decide)))
