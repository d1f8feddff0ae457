def wsX6_init : List Cond := .code yX6_init cX6_init 1 none :: ([.methodLink RX6 1 objectInit, .instanceMethod objectInit, .code objectInit ⟨#[0xb1]⟩ 1 none, .arrayClass .long, .fieldLink RX6 7 "MotionSigns$Poly" "key" "[J", .fieldLink RX6 13 "MotionSigns$Poly" "val" "[J"] ++ wsX60)
def wsX1_init : List Cond := .code yX1_init cX1_init 1 none :: ([.methodLink RX1 1 objectInit, .instanceMethod objectInit, .code objectInit ⟨#[0xb1]⟩ 1 none, .arrayClass .int, .fieldLink RX1 7 "MotionSigns$Big" "limb" "[I"] ++ wsX10)
def wsX5_init_r1 : List Cond := [Cond.methodLink RX5 3 objectInit, Cond.instanceMethod objectInit, Cond.code objectInit ⟨#[0xb1]⟩ 1 none, Cond.classLink RX5 9 RX1, Cond.instantiable RX1 3, Cond.initialized RX1, Cond.fieldLink RX5 12 "MotionSigns$Kernel" "nought" "LMotionSigns$Big;", Cond.fieldLink RX5 18 "MotionSigns$Kernel" "mine" "LMotionSigns$Big;", Cond.fieldLink RX5 21 "MotionSigns$Kernel" "theirs" "LMotionSigns$Big;", Cond.fieldLink RX5 24 "MotionSigns$Kernel" "common" "LMotionSigns$Big;", Cond.fieldLink RX5 27 "MotionSigns$Kernel" "rest" "LMotionSigns$Big;", Cond.fieldLink RX5 30 "MotionSigns$Kernel" "one" "LMotionSigns$Big;", Cond.fieldLink RX5 33 "MotionSigns$Kernel" "two" "LMotionSigns$Big;", Cond.fieldLink RX5 36 "MotionSigns$Kernel" "works" "LMotionSigns$Works;", Cond.methodLink RX5 40 Lib.Math.min.name, Cond.static Lib.Math.min.name, Cond.initialized "java/lang/Math", Cond.code Lib.Math.min.name Lib.Math.min.code 2 (some .int), Cond.methodLink RX5 46 Lib.Math.max.name, Cond.static Lib.Math.max.name, Cond.code Lib.Math.max.name Lib.Math.max.code 2 (some .int), Cond.fieldLink RX5 49 "MotionSigns$Kernel" "most" "I", Cond.fieldLink RX5 53 "MotionSigns$Kernel" "cell" "[LMotionSigns$Big;", Cond.arrayClass .int]
def wsX5_init_r2 : List Cond := [Cond.fieldLink RX5 57 "MotionSigns$Kernel" "block" "[I", Cond.fieldLink RX5 61 "MotionSigns$Kernel" "lead" "[I", Cond.fieldLink RX5 64 "MotionSigns$Kernel" "given" "[LMotionSigns$Big;", Cond.fieldLink RX5 67 "MotionSigns$Kernel" "used" "[I", Cond.fieldLink RX5 70 "MotionSigns$Kernel" "dot" "[LMotionSigns$Big;", Cond.instanceMethod yX1_init, Cond.code yX1_init cX1_init 1 none, Cond.methodLink RX1 1 objectInit, Cond.fieldLink RX1 7 "MotionSigns$Big" "limb" "[I"]
def wsX5_init : List Cond := .code yX5_init cX5_init 4 none :: ((wsX5_init_r1 ++ wsX5_init_r2) ++ wsX10 ++ wsX50)
def wsX0_init_r1 : List Cond := [Cond.methodLink RX0 3 objectInit, Cond.instanceMethod objectInit, Cond.code objectInit ⟨#[0xb1]⟩ 1 none, Cond.classLink RX0 9 RX6, Cond.instantiable RX6 3, Cond.initialized RX6, Cond.fieldLink RX0 12 "MotionSigns$Algebra" "one" "LMotionSigns$Poly;", Cond.fieldLink RX0 18 "MotionSigns$Algebra" "two" "LMotionSigns$Poly;", Cond.fieldLink RX0 21 "MotionSigns$Algebra" "made" "LMotionSigns$Poly;", Cond.arrayClass .long, Cond.fieldLink RX0 24 "MotionSigns$Algebra" "line" "[J", Cond.fieldLink RX0 28 "MotionSigns$Algebra" "table" "[J", Cond.classLink RX0 31 RX1, Cond.fieldLink RX0 33 "MotionSigns$Algebra" "times" "[LMotionSigns$Big;", Cond.fieldLink RX0 37 "MotionSigns$Algebra" "row" "[LMotionSigns$Big;", Cond.instantiable RX1 3, Cond.initialized RX1, Cond.fieldLink RX0 41 "MotionSigns$Algebra" "common" "LMotionSigns$Big;", Cond.fieldLink RX0 45 "MotionSigns$Algebra" "total" "LMotionSigns$Big;", Cond.fieldLink RX0 48 "MotionSigns$Algebra" "first" "LMotionSigns$Big;", Cond.fieldLink RX0 51 "MotionSigns$Algebra" "second" "LMotionSigns$Big;", Cond.fieldLink RX0 54 "MotionSigns$Algebra" "spare" "LMotionSigns$Big;", Cond.fieldLink RX0 57 "MotionSigns$Algebra" "works" "LMotionSigns$Works;", Cond.fieldLink RX0 61 "MotionSigns$Algebra" "scratch" "LMotionSigns$Tally;"]
def wsX0_init_r2 : List Cond := [Cond.classLink RX0 65 RX5, Cond.instantiable RX5 18, Cond.initialized RX5, Cond.fieldLink RX0 70 "MotionSigns$Algebra" "rank" "LMotionSigns$Kernel;", Cond.fieldLink RX0 74 "MotionSigns$Algebra" "span" "LMotionSigns$Kernel;", Cond.instanceMethod yX6_init, Cond.code yX6_init cX6_init 1 none, Cond.methodLink RX6 1 objectInit, Cond.fieldLink RX6 7 "MotionSigns$Poly" "key" "[J", Cond.fieldLink RX6 13 "MotionSigns$Poly" "val" "[J", Cond.instanceMethod yX1_init, Cond.code yX1_init cX1_init 1 none, Cond.methodLink RX1 1 objectInit, Cond.arrayClass .int, Cond.fieldLink RX1 7 "MotionSigns$Big" "limb" "[I", Cond.methodLink RX0 67 yX5_init, Cond.instanceMethod yX5_init, Cond.code yX5_init cX5_init 4 none, Cond.methodLink RX5 3 objectInit, Cond.classLink RX5 9 RX1, Cond.fieldLink RX5 12 "MotionSigns$Kernel" "nought" "LMotionSigns$Big;", Cond.fieldLink RX5 18 "MotionSigns$Kernel" "mine" "LMotionSigns$Big;", Cond.fieldLink RX5 21 "MotionSigns$Kernel" "theirs" "LMotionSigns$Big;", Cond.fieldLink RX5 24 "MotionSigns$Kernel" "common" "LMotionSigns$Big;"]
def wsX0_init_r3 : List Cond := [Cond.fieldLink RX5 27 "MotionSigns$Kernel" "rest" "LMotionSigns$Big;", Cond.fieldLink RX5 30 "MotionSigns$Kernel" "one" "LMotionSigns$Big;", Cond.fieldLink RX5 33 "MotionSigns$Kernel" "two" "LMotionSigns$Big;", Cond.fieldLink RX5 36 "MotionSigns$Kernel" "works" "LMotionSigns$Works;", Cond.methodLink RX5 40 Lib.Math.min.name, Cond.static Lib.Math.min.name, Cond.initialized "java/lang/Math", Cond.code Lib.Math.min.name Lib.Math.min.code 2 (some .int), Cond.methodLink RX5 46 Lib.Math.max.name, Cond.static Lib.Math.max.name, Cond.code Lib.Math.max.name Lib.Math.max.code 2 (some .int), Cond.fieldLink RX5 49 "MotionSigns$Kernel" "most" "I", Cond.fieldLink RX5 53 "MotionSigns$Kernel" "cell" "[LMotionSigns$Big;", Cond.fieldLink RX5 57 "MotionSigns$Kernel" "block" "[I", Cond.fieldLink RX5 61 "MotionSigns$Kernel" "lead" "[I", Cond.fieldLink RX5 64 "MotionSigns$Kernel" "given" "[LMotionSigns$Big;", Cond.fieldLink RX5 67 "MotionSigns$Kernel" "used" "[I", Cond.fieldLink RX5 70 "MotionSigns$Kernel" "dot" "[LMotionSigns$Big;"]
def wsX0_init : List Cond := .code yX0_init cX0_init 4 none :: ((wsX0_init_r1 ++ (wsX0_init_r2 ++ wsX0_init_r3)) ++ wsX60 ++ wsX00 ++ wsX10 ++ wsX50)
def wsX2_init : List Cond := .code yX2_init cX2_init 4 none :: ([.methodLink RX2 3 objectInit, .instanceMethod objectInit, .code objectInit ⟨#[0xb1]⟩ 1 none, .classLink RX2 9 RX6, .instantiable RX6 3, .initialized RX6, .fieldLink RX2 12 "MotionSigns$Change" "right" "LMotionSigns$Poly;", .fieldLink RX2 18 "MotionSigns$Change" "rule" "[LMotionSigns$Poly;", .fieldLink RX2 22 "MotionSigns$Change" "slope" "[LMotionSigns$Poly;", .fieldLink RX2 25 "MotionSigns$Change" "cubic" "[LMotionSigns$Poly;", .fieldLink RX2 28 "MotionSigns$Change" "one" "LMotionSigns$Poly;", .fieldLink RX2 31 "MotionSigns$Change" "two" "LMotionSigns$Poly;", .arrayClass .int, .fieldLink RX2 34 "MotionSigns$Change" "testTerms" "[I", .fieldLink RX2 38 "MotionSigns$Change" "scratch" "LMotionSigns$Tally;", .fieldLink RX2 42 "MotionSigns$Change" "gather" "LMotionSigns$Tally;", .instanceMethod yX6_init, .code yX6_init cX6_init 1 none, .methodLink RX6 1 objectInit, .arrayClass .long, .fieldLink RX6 7 "MotionSigns$Poly" "key" "[J", .fieldLink RX6 13 "MotionSigns$Poly" "val" "[J"] ++ wsX60 ++ wsX20)
def wsX3_init_r1 : List Cond := [Cond.methodLink RX3 3 objectInit, Cond.instanceMethod objectInit, Cond.code objectInit ⟨#[0xb1]⟩ 1 none, Cond.arrayClass .long, Cond.fieldLink RX3 9 "MotionSigns$Fields" "name" "[J", Cond.arrayClass .int, Cond.fieldLink RX3 15 "MotionSigns$Fields" "kinds" "[I", Cond.fieldLink RX3 19 "MotionSigns$Fields" "closed" "I", Cond.classLink RX3 23 RX5, Cond.instantiable RX5 18, Cond.initialized RX5, Cond.fieldLink RX3 28 "MotionSigns$Fields" "base" "LMotionSigns$Kernel;", Cond.methodLink RX3 25 yX5_init, Cond.instanceMethod yX5_init, Cond.code yX5_init cX5_init 4 none, Cond.methodLink RX5 3 objectInit, Cond.classLink RX5 9 RX1, Cond.instantiable RX1 3, Cond.initialized RX1, Cond.fieldLink RX5 12 "MotionSigns$Kernel" "nought" "LMotionSigns$Big;", Cond.fieldLink RX5 18 "MotionSigns$Kernel" "mine" "LMotionSigns$Big;", Cond.fieldLink RX5 21 "MotionSigns$Kernel" "theirs" "LMotionSigns$Big;", Cond.fieldLink RX5 24 "MotionSigns$Kernel" "common" "LMotionSigns$Big;", Cond.fieldLink RX5 27 "MotionSigns$Kernel" "rest" "LMotionSigns$Big;"]
def wsX3_init_r2 : List Cond := [Cond.fieldLink RX5 30 "MotionSigns$Kernel" "one" "LMotionSigns$Big;", Cond.fieldLink RX5 33 "MotionSigns$Kernel" "two" "LMotionSigns$Big;", Cond.fieldLink RX5 36 "MotionSigns$Kernel" "works" "LMotionSigns$Works;", Cond.methodLink RX5 40 Lib.Math.min.name, Cond.static Lib.Math.min.name, Cond.initialized "java/lang/Math", Cond.code Lib.Math.min.name Lib.Math.min.code 2 (some .int), Cond.methodLink RX5 46 Lib.Math.max.name, Cond.static Lib.Math.max.name, Cond.code Lib.Math.max.name Lib.Math.max.code 2 (some .int), Cond.fieldLink RX5 49 "MotionSigns$Kernel" "most" "I", Cond.fieldLink RX5 53 "MotionSigns$Kernel" "cell" "[LMotionSigns$Big;", Cond.fieldLink RX5 57 "MotionSigns$Kernel" "block" "[I", Cond.fieldLink RX5 61 "MotionSigns$Kernel" "lead" "[I", Cond.fieldLink RX5 64 "MotionSigns$Kernel" "given" "[LMotionSigns$Big;", Cond.fieldLink RX5 67 "MotionSigns$Kernel" "used" "[I", Cond.fieldLink RX5 70 "MotionSigns$Kernel" "dot" "[LMotionSigns$Big;", Cond.instanceMethod yX1_init, Cond.code yX1_init cX1_init 1 none, Cond.methodLink RX1 1 objectInit, Cond.fieldLink RX1 7 "MotionSigns$Big" "limb" "[I"]
def wsX3_init : List Cond := .code yX3_init cX3_init 3 none :: ((wsX3_init_r1 ++ wsX3_init_r2) ++ wsX30 ++ wsX50 ++ wsX10)
def wsX4_init_r1 : List Cond := [Cond.methodLink RX4 3 objectInit, Cond.instanceMethod objectInit, Cond.code objectInit ⟨#[0xb1]⟩ 1 none, Cond.classLink RX4 11 RX5, Cond.fieldLink RX4 13 "MotionSigns$Invariants" "dense" "[LMotionSigns$Kernel;", Cond.arrayClass .boolean, Cond.fieldLink RX4 17 "MotionSigns$Invariants" "denseKnown" "[Z", Cond.classLink RX4 21 RX6, Cond.instantiable RX6 3, Cond.initialized RX6, Cond.fieldLink RX4 24 "MotionSigns$Invariants" "one" "LMotionSigns$Poly;", Cond.fieldLink RX4 28 "MotionSigns$Invariants" "two" "LMotionSigns$Poly;", Cond.fieldLink RX4 31 "MotionSigns$Invariants" "scratch" "LMotionSigns$Tally;", Cond.fieldLink RX4 35 "MotionSigns$Invariants" "gather" "LMotionSigns$Tally;", Cond.instantiable RX5 18, Cond.initialized RX5, Cond.fieldLink RX4 41 "MotionSigns$Invariants" "stretched" "LMotionSigns$Kernel;", Cond.fieldLink RX4 45 "MotionSigns$Invariants" "kept" "LMotionSigns$Kernel;", Cond.instanceMethod yX6_init, Cond.code yX6_init cX6_init 1 none, Cond.methodLink RX6 1 objectInit, Cond.arrayClass .long, Cond.fieldLink RX6 7 "MotionSigns$Poly" "key" "[J", Cond.fieldLink RX6 13 "MotionSigns$Poly" "val" "[J"]
def wsX4_init_r2 : List Cond := [Cond.methodLink RX4 38 yX5_init, Cond.instanceMethod yX5_init, Cond.code yX5_init cX5_init 4 none, Cond.methodLink RX5 3 objectInit, Cond.classLink RX5 9 RX1, Cond.instantiable RX1 3, Cond.initialized RX1, Cond.fieldLink RX5 12 "MotionSigns$Kernel" "nought" "LMotionSigns$Big;", Cond.fieldLink RX5 18 "MotionSigns$Kernel" "mine" "LMotionSigns$Big;", Cond.fieldLink RX5 21 "MotionSigns$Kernel" "theirs" "LMotionSigns$Big;", Cond.fieldLink RX5 24 "MotionSigns$Kernel" "common" "LMotionSigns$Big;", Cond.fieldLink RX5 27 "MotionSigns$Kernel" "rest" "LMotionSigns$Big;", Cond.fieldLink RX5 30 "MotionSigns$Kernel" "one" "LMotionSigns$Big;", Cond.fieldLink RX5 33 "MotionSigns$Kernel" "two" "LMotionSigns$Big;", Cond.fieldLink RX5 36 "MotionSigns$Kernel" "works" "LMotionSigns$Works;", Cond.methodLink RX5 40 Lib.Math.min.name, Cond.static Lib.Math.min.name, Cond.initialized "java/lang/Math", Cond.code Lib.Math.min.name Lib.Math.min.code 2 (some .int), Cond.methodLink RX5 46 Lib.Math.max.name, Cond.static Lib.Math.max.name, Cond.code Lib.Math.max.name Lib.Math.max.code 2 (some .int), Cond.fieldLink RX5 49 "MotionSigns$Kernel" "most" "I", Cond.fieldLink RX5 53 "MotionSigns$Kernel" "cell" "[LMotionSigns$Big;"]
def wsX4_init_r3 : List Cond := [Cond.arrayClass .int, Cond.fieldLink RX5 57 "MotionSigns$Kernel" "block" "[I", Cond.fieldLink RX5 61 "MotionSigns$Kernel" "lead" "[I", Cond.fieldLink RX5 64 "MotionSigns$Kernel" "given" "[LMotionSigns$Big;", Cond.fieldLink RX5 67 "MotionSigns$Kernel" "used" "[I", Cond.fieldLink RX5 70 "MotionSigns$Kernel" "dot" "[LMotionSigns$Big;", Cond.instanceMethod yX1_init, Cond.code yX1_init cX1_init 1 none, Cond.methodLink RX1 1 objectInit, Cond.fieldLink RX1 7 "MotionSigns$Big" "limb" "[I"]
def wsX4_init : List Cond := .code yX4_init cX4_init 5 none :: ((wsX4_init_r1 ++ (wsX4_init_r2 ++ wsX4_init_r3)) ++ wsX40 ++ wsX60 ++ wsX50 ++ wsX10)
def wsX7_init : List Cond := .code yX7_init cX7_init 4 none :: ([.methodLink RX7 3 objectInit, .instanceMethod objectInit, .code objectInit ⟨#[0xb1]⟩ 1 none, .classLink RX7 11 RX6, .fieldLink RX7 13 "MotionSigns$Reader" "pool" "[LMotionSigns$Poly;", .instantiable RX6 3, .initialized RX6, .fieldLink RX7 18 "MotionSigns$Reader" "made" "LMotionSigns$Poly;", .fieldLink RX7 22 "MotionSigns$Reader" "place" "I", .fieldLink RX7 26 "MotionSigns$Reader" "text" "[B", .fieldLink RX7 30 "MotionSigns$Reader" "scratch" "LMotionSigns$Tally;", .instanceMethod yX6_init, .code yX6_init cX6_init 1 none, .methodLink RX6 1 objectInit, .arrayClass .long, .fieldLink RX6 7 "MotionSigns$Poly" "key" "[J", .fieldLink RX6 13 "MotionSigns$Poly" "val" "[J"] ++ wsX70 ++ wsX60)
def wsX8_init : List Cond := .code yX8_init cX8_init 2 none :: ([.methodLink RX8 3 objectInit, .instanceMethod objectInit, .code objectInit ⟨#[0xb1]⟩ 1 none, .arrayClass .long, .fieldLink RX8 9 "MotionSigns$Tally" "key" "[J", .fieldLink RX8 15 "MotionSigns$Tally" "val" "[J", .arrayClass .int, .fieldLink RX8 18 "MotionSigns$Tally" "who" "[I", .fieldLink RX8 22 "MotionSigns$Tally" "next" "[I", .fieldLink RX8 25 "MotionSigns$Tally" "head" "[I"] ++ wsX80)
def wsX9_init : List Cond := .code yX9_init cX9_init 4 none :: ([.methodLink RX9 3 objectInit, .instanceMethod objectInit, .code objectInit ⟨#[0xb1]⟩ 1 none, .classLink RX9 9 RX6, .fieldLink RX9 11 "MotionSigns$Trial" "slope" "[LMotionSigns$Poly;", .instantiable RX6 3, .initialized RX6, .fieldLink RX9 18 "MotionSigns$Trial" "part" "LMotionSigns$Poly;", .fieldLink RX9 22 "MotionSigns$Trial" "moved" "LMotionSigns$Poly;", .fieldLink RX9 25 "MotionSigns$Trial" "spare" "LMotionSigns$Poly;", .fieldLink RX9 28 "MotionSigns$Trial" "remains" "LMotionSigns$Poly;", .fieldLink RX9 31 "MotionSigns$Trial" "scratch" "LMotionSigns$Tally;", .fieldLink RX9 35 "MotionSigns$Trial" "gather" "LMotionSigns$Tally;", .instanceMethod yX6_init, .code yX6_init cX6_init 1 none, .methodLink RX6 1 objectInit, .arrayClass .long, .fieldLink RX6 7 "MotionSigns$Poly" "key" "[J", .fieldLink RX6 13 "MotionSigns$Poly" "val" "[J"] ++ wsX90 ++ wsX60)
def wsX10_init : List Cond := .code yX10_init cX10_init 1 none :: ([.methodLink RX10 1 objectInit, .instanceMethod objectInit, .code objectInit ⟨#[0xb1]⟩ 1 none, .classLink RX10 7 RX1, .instantiable RX1 3, .initialized RX1, .fieldLink RX10 10 "MotionSigns$Works" "upper" "LMotionSigns$Big;", .fieldLink RX10 16 "MotionSigns$Works" "lower" "LMotionSigns$Big;", .fieldLink RX10 19 "MotionSigns$Works" "quotient" "LMotionSigns$Big;", .fieldLink RX10 22 "MotionSigns$Works" "remainder" "LMotionSigns$Big;", .arrayClass .int, .fieldLink RX10 25 "MotionSigns$Works" "top" "[I", .fieldLink RX10 29 "MotionSigns$Works" "foot" "[I", .instanceMethod yX1_init, .code yX1_init cX1_init 1 none, .methodLink RX1 1 objectInit, .fieldLink RX1 7 "MotionSigns$Big" "limb" "[I"] ++ wsX10 ++ wsX100)
def wsX11_init_r1 : List Cond := [Cond.methodLink RX11 3 objectInit, Cond.instanceMethod objectInit, Cond.code objectInit ⟨#[0xb1]⟩ 1 none, Cond.arrayClass .byte, Cond.fieldLink RX11 9 "MotionSigns" "tape" "[B", Cond.fieldLink RX11 13 "MotionSigns" "faultPlace" "I", Cond.classLink RX11 17 RX10, Cond.instantiable RX10 6, Cond.initialized RX10, Cond.fieldLink RX11 20 "MotionSigns" "works" "LMotionSigns$Works;", Cond.classLink RX11 24 RX8, Cond.instantiable RX8 6, Cond.initialized RX8, Cond.fieldLink RX11 29 "MotionSigns" "scratch" "LMotionSigns$Tally;", Cond.fieldLink RX11 33 "MotionSigns" "gather" "LMotionSigns$Tally;", Cond.classLink RX11 36 RX7, Cond.instantiable RX7 10, Cond.initialized RX7, Cond.fieldLink RX11 41 "MotionSigns" "reader" "LMotionSigns$Reader;", Cond.classLink RX11 45 RX2, Cond.instantiable RX2 13, Cond.initialized RX2, Cond.fieldLink RX11 50 "MotionSigns" "change" "LMotionSigns$Change;", Cond.classLink RX11 54 RX0]
def wsX11_init_r2 : List Cond := [Cond.instantiable RX0 16, Cond.initialized RX0, Cond.fieldLink RX11 59 "MotionSigns" "algebra" "LMotionSigns$Algebra;", Cond.classLink RX11 63 RX3, Cond.fieldLink RX11 65 "MotionSigns" "bases" "[LMotionSigns$Fields;", Cond.classLink RX11 69 RX4, Cond.instantiable RX4 9, Cond.initialized RX4, Cond.fieldLink RX11 74 "MotionSigns" "invariants" "LMotionSigns$Invariants;", Cond.classLink RX11 78 RX9, Cond.instantiable RX9 7, Cond.initialized RX9, Cond.fieldLink RX11 81 "MotionSigns" "trial" "LMotionSigns$Trial;", Cond.classLink RX11 85 RX6, Cond.instantiable RX6 3, Cond.initialized RX6, Cond.fieldLink RX11 88 "MotionSigns" "move" "LMotionSigns$Poly;", Cond.fieldLink RX11 92 "MotionSigns" "guess" "LMotionSigns$Poly;", Cond.fieldLink RX11 95 "MotionSigns" "movesKept" "[LMotionSigns$Poly;", Cond.fieldLink RX11 99 "MotionSigns" "guessesKept" "[LMotionSigns$Poly;", Cond.fieldLink RX11 102 "MotionSigns" "moveRest" "I", Cond.instantiable RX3 7, Cond.initialized RX3, Cond.fieldLink RX11 105 "MotionSigns" "UNKNOWNS_BY_DEGREE" "[I"]
def wsX11_init_r3 : List Cond := [Cond.instanceMethod yX10_init, Cond.code yX10_init cX10_init 1 none, Cond.methodLink RX10 1 objectInit, Cond.classLink RX10 7 RX1, Cond.instantiable RX1 3, Cond.initialized RX1, Cond.fieldLink RX10 10 "MotionSigns$Works" "upper" "LMotionSigns$Big;", Cond.fieldLink RX10 16 "MotionSigns$Works" "lower" "LMotionSigns$Big;", Cond.fieldLink RX10 19 "MotionSigns$Works" "quotient" "LMotionSigns$Big;", Cond.fieldLink RX10 22 "MotionSigns$Works" "remainder" "LMotionSigns$Big;", Cond.arrayClass .int, Cond.fieldLink RX10 25 "MotionSigns$Works" "top" "[I", Cond.fieldLink RX10 29 "MotionSigns$Works" "foot" "[I", Cond.instanceMethod yX1_init, Cond.code yX1_init cX1_init 1 none, Cond.methodLink RX1 1 objectInit, Cond.fieldLink RX1 7 "MotionSigns$Big" "limb" "[I", Cond.methodLink RX11 26 yX8_init, Cond.instanceMethod yX8_init, Cond.code yX8_init cX8_init 2 none, Cond.methodLink RX8 3 objectInit, Cond.arrayClass .long, Cond.fieldLink RX8 9 "MotionSigns$Tally" "key" "[J", Cond.fieldLink RX8 15 "MotionSigns$Tally" "val" "[J"]
def wsX11_init_r4 : List Cond := [Cond.fieldLink RX8 18 "MotionSigns$Tally" "who" "[I", Cond.fieldLink RX8 22 "MotionSigns$Tally" "next" "[I", Cond.fieldLink RX8 25 "MotionSigns$Tally" "head" "[I", Cond.methodLink RX11 38 yX7_init, Cond.instanceMethod yX7_init, Cond.code yX7_init cX7_init 4 none, Cond.methodLink RX7 3 objectInit, Cond.classLink RX7 11 RX6, Cond.fieldLink RX7 13 "MotionSigns$Reader" "pool" "[LMotionSigns$Poly;", Cond.fieldLink RX7 18 "MotionSigns$Reader" "made" "LMotionSigns$Poly;", Cond.fieldLink RX7 22 "MotionSigns$Reader" "place" "I", Cond.fieldLink RX7 26 "MotionSigns$Reader" "text" "[B", Cond.fieldLink RX7 30 "MotionSigns$Reader" "scratch" "LMotionSigns$Tally;", Cond.instanceMethod yX6_init, Cond.code yX6_init cX6_init 1 none, Cond.methodLink RX6 1 objectInit, Cond.fieldLink RX6 7 "MotionSigns$Poly" "key" "[J", Cond.fieldLink RX6 13 "MotionSigns$Poly" "val" "[J", Cond.methodLink RX11 47 yX2_init, Cond.instanceMethod yX2_init, Cond.code yX2_init cX2_init 4 none, Cond.methodLink RX2 3 objectInit, Cond.classLink RX2 9 RX6, Cond.fieldLink RX2 12 "MotionSigns$Change" "right" "LMotionSigns$Poly;"]
def wsX11_init_r5 : List Cond := [Cond.fieldLink RX2 18 "MotionSigns$Change" "rule" "[LMotionSigns$Poly;", Cond.fieldLink RX2 22 "MotionSigns$Change" "slope" "[LMotionSigns$Poly;", Cond.fieldLink RX2 25 "MotionSigns$Change" "cubic" "[LMotionSigns$Poly;", Cond.fieldLink RX2 28 "MotionSigns$Change" "one" "LMotionSigns$Poly;", Cond.fieldLink RX2 31 "MotionSigns$Change" "two" "LMotionSigns$Poly;", Cond.fieldLink RX2 34 "MotionSigns$Change" "testTerms" "[I", Cond.fieldLink RX2 38 "MotionSigns$Change" "scratch" "LMotionSigns$Tally;", Cond.fieldLink RX2 42 "MotionSigns$Change" "gather" "LMotionSigns$Tally;", Cond.methodLink RX11 56 yX0_init, Cond.instanceMethod yX0_init, Cond.code yX0_init cX0_init 4 none, Cond.methodLink RX0 3 objectInit, Cond.classLink RX0 9 RX6, Cond.fieldLink RX0 12 "MotionSigns$Algebra" "one" "LMotionSigns$Poly;", Cond.fieldLink RX0 18 "MotionSigns$Algebra" "two" "LMotionSigns$Poly;", Cond.fieldLink RX0 21 "MotionSigns$Algebra" "made" "LMotionSigns$Poly;", Cond.fieldLink RX0 24 "MotionSigns$Algebra" "line" "[J", Cond.fieldLink RX0 28 "MotionSigns$Algebra" "table" "[J", Cond.classLink RX0 31 RX1, Cond.fieldLink RX0 33 "MotionSigns$Algebra" "times" "[LMotionSigns$Big;", Cond.fieldLink RX0 37 "MotionSigns$Algebra" "row" "[LMotionSigns$Big;", Cond.fieldLink RX0 41 "MotionSigns$Algebra" "common" "LMotionSigns$Big;", Cond.fieldLink RX0 45 "MotionSigns$Algebra" "total" "LMotionSigns$Big;", Cond.fieldLink RX0 48 "MotionSigns$Algebra" "first" "LMotionSigns$Big;"]
def wsX11_init_r6 : List Cond := [Cond.fieldLink RX0 51 "MotionSigns$Algebra" "second" "LMotionSigns$Big;", Cond.fieldLink RX0 54 "MotionSigns$Algebra" "spare" "LMotionSigns$Big;", Cond.fieldLink RX0 57 "MotionSigns$Algebra" "works" "LMotionSigns$Works;", Cond.fieldLink RX0 61 "MotionSigns$Algebra" "scratch" "LMotionSigns$Tally;", Cond.classLink RX0 65 RX5, Cond.instantiable RX5 18, Cond.initialized RX5, Cond.fieldLink RX0 70 "MotionSigns$Algebra" "rank" "LMotionSigns$Kernel;", Cond.fieldLink RX0 74 "MotionSigns$Algebra" "span" "LMotionSigns$Kernel;", Cond.methodLink RX0 67 yX5_init, Cond.instanceMethod yX5_init, Cond.code yX5_init cX5_init 4 none, Cond.methodLink RX5 3 objectInit, Cond.classLink RX5 9 RX1, Cond.fieldLink RX5 12 "MotionSigns$Kernel" "nought" "LMotionSigns$Big;", Cond.fieldLink RX5 18 "MotionSigns$Kernel" "mine" "LMotionSigns$Big;", Cond.fieldLink RX5 21 "MotionSigns$Kernel" "theirs" "LMotionSigns$Big;", Cond.fieldLink RX5 24 "MotionSigns$Kernel" "common" "LMotionSigns$Big;", Cond.fieldLink RX5 27 "MotionSigns$Kernel" "rest" "LMotionSigns$Big;", Cond.fieldLink RX5 30 "MotionSigns$Kernel" "one" "LMotionSigns$Big;", Cond.fieldLink RX5 33 "MotionSigns$Kernel" "two" "LMotionSigns$Big;", Cond.fieldLink RX5 36 "MotionSigns$Kernel" "works" "LMotionSigns$Works;", Cond.methodLink RX5 40 Lib.Math.min.name, Cond.static Lib.Math.min.name]
def wsX11_init_r7 : List Cond := [Cond.initialized "java/lang/Math", Cond.code Lib.Math.min.name Lib.Math.min.code 2 (some .int), Cond.methodLink RX5 46 Lib.Math.max.name, Cond.static Lib.Math.max.name, Cond.code Lib.Math.max.name Lib.Math.max.code 2 (some .int), Cond.fieldLink RX5 49 "MotionSigns$Kernel" "most" "I", Cond.fieldLink RX5 53 "MotionSigns$Kernel" "cell" "[LMotionSigns$Big;", Cond.fieldLink RX5 57 "MotionSigns$Kernel" "block" "[I", Cond.fieldLink RX5 61 "MotionSigns$Kernel" "lead" "[I", Cond.fieldLink RX5 64 "MotionSigns$Kernel" "given" "[LMotionSigns$Big;", Cond.fieldLink RX5 67 "MotionSigns$Kernel" "used" "[I", Cond.fieldLink RX5 70 "MotionSigns$Kernel" "dot" "[LMotionSigns$Big;", Cond.methodLink RX11 71 yX4_init, Cond.instanceMethod yX4_init, Cond.code yX4_init cX4_init 5 none, Cond.methodLink RX4 3 objectInit, Cond.classLink RX4 11 RX5, Cond.fieldLink RX4 13 "MotionSigns$Invariants" "dense" "[LMotionSigns$Kernel;", Cond.arrayClass .boolean, Cond.fieldLink RX4 17 "MotionSigns$Invariants" "denseKnown" "[Z", Cond.classLink RX4 21 RX6, Cond.fieldLink RX4 24 "MotionSigns$Invariants" "one" "LMotionSigns$Poly;", Cond.fieldLink RX4 28 "MotionSigns$Invariants" "two" "LMotionSigns$Poly;", Cond.fieldLink RX4 31 "MotionSigns$Invariants" "scratch" "LMotionSigns$Tally;"]
def wsX11_init_r8 : List Cond := [Cond.fieldLink RX4 35 "MotionSigns$Invariants" "gather" "LMotionSigns$Tally;", Cond.fieldLink RX4 41 "MotionSigns$Invariants" "stretched" "LMotionSigns$Kernel;", Cond.fieldLink RX4 45 "MotionSigns$Invariants" "kept" "LMotionSigns$Kernel;", Cond.methodLink RX4 38 yX5_init, Cond.methodLink RX11 80 yX9_init, Cond.instanceMethod yX9_init, Cond.code yX9_init cX9_init 4 none, Cond.methodLink RX9 3 objectInit, Cond.classLink RX9 9 RX6, Cond.fieldLink RX9 11 "MotionSigns$Trial" "slope" "[LMotionSigns$Poly;", Cond.fieldLink RX9 18 "MotionSigns$Trial" "part" "LMotionSigns$Poly;", Cond.fieldLink RX9 22 "MotionSigns$Trial" "moved" "LMotionSigns$Poly;", Cond.fieldLink RX9 25 "MotionSigns$Trial" "spare" "LMotionSigns$Poly;", Cond.fieldLink RX9 28 "MotionSigns$Trial" "remains" "LMotionSigns$Poly;", Cond.fieldLink RX9 31 "MotionSigns$Trial" "scratch" "LMotionSigns$Tally;", Cond.fieldLink RX9 35 "MotionSigns$Trial" "gather" "LMotionSigns$Tally;", Cond.methodLink RX11 109 yX3_init, Cond.instanceMethod yX3_init, Cond.code yX3_init cX3_init 3 none, Cond.methodLink RX3 3 objectInit, Cond.fieldLink RX3 9 "MotionSigns$Fields" "name" "[J", Cond.fieldLink RX3 15 "MotionSigns$Fields" "kinds" "[I", Cond.fieldLink RX3 19 "MotionSigns$Fields" "closed" "I", Cond.classLink RX3 23 RX5]
def wsX11_init_r9 : List Cond := [Cond.fieldLink RX3 28 "MotionSigns$Fields" "base" "LMotionSigns$Kernel;", Cond.methodLink RX3 25 yX5_init]
def wsX11_init : List Cond := .code yX11_init cX11_init 2 none :: ((wsX11_init_r1 ++ (wsX11_init_r2 ++ (wsX11_init_r3 ++ (wsX11_init_r4 ++ (wsX11_init_r5 ++ (wsX11_init_r6 ++ (wsX11_init_r7 ++ (wsX11_init_r8 ++ wsX11_init_r9)))))))) ++ wsX110 ++ wsX100 ++ wsX80 ++ wsX70 ++ wsX20 ++ wsX00 ++ wsX40 ++ wsX90 ++ wsX60 ++ wsX30 ++ wsX10 ++ wsX50)
def wsX12_init : List Cond := .code yX12_init cX12_init 2 none :: ([.methodLink RX12 1 objectInit, .instanceMethod objectInit, .code objectInit ⟨#[0xb1]⟩ 1 none, .arrayClass .int, .fieldLink RX12 7 "MotionSignsModel$Big" "of" "[I"] ++ wsX120)
def wsX13_init : List Cond := .code yX13_init cX13_init 2 none :: ([.methodLink RX13 3 objectInit, .instanceMethod objectInit, .code objectInit ⟨#[0xb1]⟩ 1 none, .arrayClass .long, .fieldLink RX13 9 "MotionSignsModel$Poly" "key" "[J", .fieldLink RX13 15 "MotionSignsModel$Poly" "num" "[J", .arrayClass .int, .fieldLink RX13 18 "MotionSignsModel$Poly" "slot" "[I", .fieldLink RX13 22 "MotionSignsModel$Poly" "where" "[I"] ++ wsX130)
def wsX14_init : List Cond := .code yX14_init cX14_init 4 none :: ([.fieldLink RX14 3 "MotionSignsModel$Table" "this$0" "LMotionSignsModel;", .methodLink RX14 9 objectInit, .instanceMethod objectInit, .code objectInit ⟨#[0xb1]⟩ 1 none, .fieldLink RX14 17 "MotionSignsModel$Table" "row" "[[LMotionSignsModel$Big;", .arrayClass .int, .fieldLink RX14 20 "MotionSignsModel$Table" "rowOf" "[I", .classLink RX14 24 RX12, .instantiable RX12 3, .initialized RX12, .instanceMethod yX12_init, .code yX12_init cX12_init 2 none, .methodLink RX12 1 objectInit, .fieldLink RX12 7 "MotionSignsModel$Big" "of" "[I"] ++ wsX140 ++ wsX120)
def wsX15_init_r1 : List Cond := [Cond.methodLink RX15 89 objectInit, Cond.instanceMethod objectInit, Cond.code objectInit ⟨#[0xb1]⟩ 1 none, Cond.classLink RX15 2 RX12, Cond.instantiable RX12 3, Cond.initialized RX12, Cond.fieldLink RX15 11 "MotionSignsModel" "a0" "LMotionSignsModel$Big;", Cond.fieldLink RX15 17 "MotionSignsModel" "a1" "LMotionSignsModel$Big;", Cond.fieldLink RX15 20 "MotionSignsModel" "a2" "LMotionSignsModel$Big;", Cond.fieldLink RX15 51 "MotionSignsModel" "a3" "LMotionSignsModel$Big;", Cond.fieldLink RX15 62 "MotionSignsModel" "a4" "LMotionSignsModel$Big;", Cond.fieldLink RX15 65 "MotionSignsModel" "a5" "LMotionSignsModel$Big;", Cond.fieldLink RX15 68 "MotionSignsModel" "a6" "LMotionSignsModel$Big;", Cond.fieldLink RX15 98 "MotionSignsModel" "a7" "LMotionSignsModel$Big;", Cond.fieldLink RX15 101 "MotionSignsModel" "a8" "LMotionSignsModel$Big;", Cond.fieldLink RX15 104 "MotionSignsModel" "a9" "LMotionSignsModel$Big;", Cond.classLink RX15 43 RX14, Cond.instantiable RX14 5, Cond.initialized RX14, Cond.fieldLink RX15 38 "MotionSignsModel" "table" "LMotionSignsModel$Table;", Cond.fieldLink RX15 110 "MotionSignsModel" "second" "LMotionSignsModel$Table;", Cond.fieldLink RX15 81 "MotionSignsModel" "base" "[[LMotionSignsModel$Big;", Cond.fieldLink RX15 114 "MotionSignsModel" "hand" "[LMotionSignsModel$Big;", Cond.arrayClass .int]
def wsX15_init_r2 : List Cond := [Cond.fieldLink RX15 84 "MotionSignsModel" "lead" "[I", Cond.fieldLink RX15 118 "MotionSignsModel" "baseDegree" "I", Cond.fieldLink RX15 121 "MotionSignsModel" "place" "I", Cond.fieldLink RX15 124 "MotionSignsModel" "fed" "[I", Cond.classLink RX15 127 RX13, Cond.instantiable RX13 5, Cond.initialized RX13, Cond.fieldLink RX15 130 "MotionSignsModel" "f" "LMotionSignsModel$Poly;", Cond.fieldLink RX15 134 "MotionSignsModel" "field" "[LMotionSignsModel$Poly;", Cond.fieldLink RX15 138 "MotionSignsModel" "readField" "[LMotionSignsModel$Poly;", Cond.fieldLink RX15 141 "MotionSignsModel" "solution" "LMotionSignsModel$Poly;", Cond.fieldLink RX15 144 "MotionSignsModel" "work" "LMotionSignsModel$Poly;", Cond.fieldLink RX15 149 "MotionSignsModel" "kept" "[[LMotionSignsModel$Poly;", Cond.fieldLink RX15 152 "MotionSignsModel" "readF" "LMotionSignsModel$Poly;", Cond.fieldLink RX15 155 "MotionSignsModel" "by" "[LMotionSignsModel$Poly;", Cond.fieldLink RX15 158 "MotionSignsModel" "byX" "LMotionSignsModel$Poly;", Cond.fieldLink RX15 161 "MotionSignsModel" "byT" "LMotionSignsModel$Poly;", Cond.fieldLink RX15 164 "MotionSignsModel" "along" "[LMotionSignsModel$Poly;", Cond.fieldLink RX15 167 "MotionSignsModel" "slopes" "[LMotionSignsModel$Poly;", Cond.constant RX15 170 (32768), Cond.fieldLink RX15 171 "MotionSignsModel" "part" "LMotionSignsModel$Poly;", Cond.constant RX15 174 (262144), Cond.fieldLink RX15 175 "MotionSignsModel" "all" "LMotionSignsModel$Poly;", Cond.fieldLink RX15 178 "MotionSignsModel" "single" "LMotionSignsModel$Poly;"]
def wsX15_init_r3 : List Cond := [Cond.fieldLink RX15 181 "MotionSignsModel" "mixed" "LMotionSignsModel$Poly;", Cond.fieldLink RX15 184 "MotionSignsModel" "changed" "LMotionSignsModel$Poly;", Cond.arrayClass .long, Cond.fieldLink RX15 187 "MotionSignsModel" "unknown" "[J", Cond.fieldLink RX15 191 "MotionSignsModel" "partOf" "[I", Cond.fieldLink RX15 194 "MotionSignsModel" "nothing" "LMotionSignsModel$Poly;", Cond.constant RX15 197 (200000), Cond.fieldLink RX15 198 "MotionSignsModel" "eqKey" "[J", Cond.fieldLink RX15 201 "MotionSignsModel" "eqNum" "[J", Cond.fieldLink RX15 204 "MotionSignsModel" "eqOf" "[I", Cond.classLink RX15 207 "[[J", Cond.fieldLink RX15 209 "MotionSignsModel" "leftRow" "[[J", Cond.fieldLink RX15 212 "MotionSignsModel" "leftAt" "[I", Cond.fieldLink RX15 215 "MotionSignsModel" "leftHand" "[J", Cond.fieldLink RX15 218 "MotionSignsModel" "moved" "LMotionSignsModel$Poly;", Cond.fieldLink RX15 221 "MotionSignsModel" "vector" "[J", Cond.fieldLink RX15 224 "MotionSignsModel" "one3" "[LMotionSignsModel$Poly;", Cond.fieldLink RX15 227 "MotionSignsModel" "other3" "[LMotionSignsModel$Poly;", Cond.fieldLink RX15 230 "MotionSignsModel" "result3" "[LMotionSignsModel$Poly;", Cond.fieldLink RX15 233 "MotionSignsModel" "wide" "LMotionSignsModel$Poly;", Cond.fieldLink RX15 237 "MotionSignsModel" "atLead" "[[[J", Cond.fieldLink RX15 240 "MotionSignsModel" "bound" "LMotionSignsModel$Big;", Cond.fieldLink RX15 243 "MotionSignsModel" "c0" "LMotionSignsModel$Big;", Cond.fieldLink RX15 246 "MotionSignsModel" "c1" "LMotionSignsModel$Big;"]
def wsX15_init_r4 : List Cond := [Cond.fieldLink RX15 249 "MotionSignsModel" "c2" "LMotionSignsModel$Big;", Cond.fieldLink RX15 252 "MotionSignsModel" "c3" "LMotionSignsModel$Big;", Cond.fieldLink RX15 255 "MotionSignsModel" "spanned" "[[LMotionSignsModel$Big;", Cond.classLink RX15 258 "[[I", Cond.fieldLink RX15 260 "MotionSignsModel" "stretch" "[[I", Cond.fieldLink RX15 263 "MotionSignsModel" "keeps" "[[I", Cond.fieldLink RX15 266 "MotionSignsModel" "told5" "[[J", Cond.fieldLink RX15 269 "MotionSignsModel" "made5" "[[J", Cond.fieldLink RX15 272 "MotionSignsModel" "own" "[[[J", Cond.fieldLink RX15 275 "MotionSignsModel" "sofar" "[[J", Cond.fieldLink RX15 278 "MotionSignsModel" "next" "[[J", Cond.fieldLink RX15 281 "MotionSignsModel" "left" "[[J", Cond.fieldLink RX15 284 "MotionSignsModel" "lineOf" "[LMotionSignsModel$Poly;", Cond.fieldLink RX15 287 "MotionSignsModel" "test" "LMotionSignsModel$Poly;", Cond.fieldLink RX15 290 "MotionSignsModel" "some" "LMotionSignsModel$Poly;", Cond.fieldLink RX15 293 "MotionSignsModel" "other" "LMotionSignsModel$Poly;", Cond.instanceMethod yX12_init, Cond.code yX12_init cX12_init 2 none, Cond.methodLink RX12 1 objectInit, Cond.fieldLink RX12 7 "MotionSignsModel$Big" "of" "[I", Cond.instanceMethod yX14_init, Cond.code yX14_init cX14_init 4 none, Cond.fieldLink RX14 3 "MotionSignsModel$Table" "this$0" "LMotionSignsModel;", Cond.methodLink RX14 9 objectInit]
def wsX15_init_r5 : List Cond := [Cond.fieldLink RX14 17 "MotionSignsModel$Table" "row" "[[LMotionSignsModel$Big;", Cond.fieldLink RX14 20 "MotionSignsModel$Table" "rowOf" "[I", Cond.classLink RX14 24 RX12, Cond.instanceMethod yX13_init, Cond.code yX13_init cX13_init 2 none, Cond.methodLink RX13 3 objectInit, Cond.fieldLink RX13 9 "MotionSignsModel$Poly" "key" "[J", Cond.fieldLink RX13 15 "MotionSignsModel$Poly" "num" "[J", Cond.fieldLink RX13 18 "MotionSignsModel$Poly" "slot" "[I", Cond.fieldLink RX13 22 "MotionSignsModel$Poly" "where" "[I"]
def wsX15_init : List Cond := .code yX15_init cX15_init 3 none :: ((wsX15_init_r1 ++ (wsX15_init_r2 ++ (wsX15_init_r3 ++ (wsX15_init_r4 ++ wsX15_init_r5)))) ++ wsX120 ++ wsX150 ++ wsX140 ++ wsX130)
set_option maxRecDepth 20000 in
theorem ggX0_init_X6_init : GoodIn wsX0_init wsX6_init := goodIn_r _ [31, 32, 2, 3, 10, 33, 34, 67, 68, 69] (by decide +kernel) (by decide +kernel)
set_option maxRecDepth 20000 in
theorem gX0_init_X6_init_n11 : GoodIn wsX0_init (wsX6_init) := ggX0_init_X6_init
set_option maxRecDepth 20000 in
theorem ggX0_init_X1_init : GoodIn wsX0_init wsX1_init := goodIn_r _ [36, 37, 2, 3, 38, 39, 86, 87, 88] (by decide +kernel) (by decide +kernel)
set_option maxRecDepth 20000 in
theorem gX0_init_X1_init_n40 : GoodIn wsX0_init (wsX1_init) := ggX0_init_X1_init
set_option maxRecDepth 20000 in
theorem ggX0_init_X5_init : GoodIn wsX0_init wsX5_init := goodIn_r _ [42, 43, 2, 3, 44, 16, 17, 45, 46, 47, 48, 49, 50, 51, 52, 53, 54, 55, 56, 57, 58, 59, 60, 61, 38, 62, 63, 64, 65, 66, 35, 36, 37, 39, 86, 87, 88, 89, 90, 91, 92, 93, 94, 95, 96, 97, 98, 99, 100, 101, 102, 103, 104, 105, 106] (by decide +kernel) (by decide +kernel)
set_option maxRecDepth 20000 in
theorem gX0_init_X5_init : GoodIn wsX0_init (wsX5_init) := ggX0_init_X5_init
theorem dX0_init_0 : decode cX0_init 0 = .ok (.aload_n 0, 1) := by decide +kernel
theorem dX0_init_1 : decode cX0_init 1 = .ok (.invokespecial 3, 3) := by decide +kernel
theorem dX0_init_4 : decode cX0_init 4 = .ok (.aload_n 0, 1) := by decide +kernel
theorem dX0_init_5 : decode cX0_init 5 = .ok (.new 9, 3) := by decide +kernel
theorem dX0_init_8 : decode cX0_init 8 = .ok (.dup, 1) := by decide +kernel
theorem dX0_init_9 : decode cX0_init 9 = .ok (.invokespecial 11, 3) := by decide +kernel
theorem dX0_init_12 : decode cX0_init 12 = .ok (.putfield 12, 3) := by decide +kernel
theorem dX0_init_15 : decode cX0_init 15 = .ok (.aload_n 0, 1) := by decide +kernel
theorem dX0_init_16 : decode cX0_init 16 = .ok (.new 9, 3) := by decide +kernel
theorem dX0_init_19 : decode cX0_init 19 = .ok (.dup, 1) := by decide +kernel
theorem dX0_init_20 : decode cX0_init 20 = .ok (.invokespecial 11, 3) := by decide +kernel
theorem dX0_init_23 : decode cX0_init 23 = .ok (.putfield 18, 3) := by decide +kernel
theorem dX0_init_26 : decode cX0_init 26 = .ok (.aload_n 0, 1) := by decide +kernel
theorem dX0_init_27 : decode cX0_init 27 = .ok (.new 9, 3) := by decide +kernel
theorem dX0_init_30 : decode cX0_init 30 = .ok (.dup, 1) := by decide +kernel
theorem dX0_init_31 : decode cX0_init 31 = .ok (.invokespecial 11, 3) := by decide +kernel
theorem dX0_init_34 : decode cX0_init 34 = .ok (.putfield 21, 3) := by decide +kernel
theorem dX0_init_37 : decode cX0_init 37 = .ok (.aload_n 0, 1) := by decide +kernel
theorem dX0_init_38 : decode cX0_init 38 = .ok (.bipush 30, 2) := by decide +kernel
theorem dX0_init_40 : decode cX0_init 40 = .ok (.newarray .long, 2) := by decide +kernel
theorem dX0_init_42 : decode cX0_init 42 = .ok (.putfield 24, 3) := by decide +kernel
theorem dX0_init_45 : decode cX0_init 45 = .ok (.aload_n 0, 1) := by decide +kernel
theorem dX0_init_46 : decode cX0_init 46 = .ok (.sipush 27000, 3) := by decide +kernel
theorem dX0_init_49 : decode cX0_init 49 = .ok (.newarray .long, 2) := by decide +kernel
theorem dX0_init_51 : decode cX0_init 51 = .ok (.putfield 28, 3) := by decide +kernel
theorem dX0_init_54 : decode cX0_init 54 = .ok (.aload_n 0, 1) := by decide +kernel
theorem dX0_init_55 : decode cX0_init 55 = .ok (.bipush 30, 2) := by decide +kernel
theorem dX0_init_57 : decode cX0_init 57 = .ok (.anewarray 31, 3) := by decide +kernel
theorem dX0_init_60 : decode cX0_init 60 = .ok (.putfield 33, 3) := by decide +kernel
theorem dX0_init_63 : decode cX0_init 63 = .ok (.aload_n 0, 1) := by decide +kernel
theorem dX0_init_64 : decode cX0_init 64 = .ok (.bipush 30, 2) := by decide +kernel
theorem dX0_init_66 : decode cX0_init 66 = .ok (.anewarray 31, 3) := by decide +kernel
theorem dX0_init_69 : decode cX0_init 69 = .ok (.putfield 37, 3) := by decide +kernel
theorem dX0_init_72 : decode cX0_init 72 = .ok (.aload_n 0, 1) := by decide +kernel
theorem dX0_init_73 : decode cX0_init 73 = .ok (.new 31, 3) := by decide +kernel
theorem dX0_init_76 : decode cX0_init 76 = .ok (.dup, 1) := by decide +kernel
theorem dX0_init_77 : decode cX0_init 77 = .ok (.invokespecial 40, 3) := by decide +kernel
theorem dX0_init_80 : decode cX0_init 80 = .ok (.putfield 41, 3) := by decide +kernel
theorem dX0_init_83 : decode cX0_init 83 = .ok (.aload_n 0, 1) := by decide +kernel
theorem dX0_init_84 : decode cX0_init 84 = .ok (.new 31, 3) := by decide +kernel
theorem dX0_init_87 : decode cX0_init 87 = .ok (.dup, 1) := by decide +kernel
theorem dX0_init_88 : decode cX0_init 88 = .ok (.invokespecial 40, 3) := by decide +kernel
theorem dX0_init_91 : decode cX0_init 91 = .ok (.putfield 45, 3) := by decide +kernel
theorem dX0_init_94 : decode cX0_init 94 = .ok (.aload_n 0, 1) := by decide +kernel
theorem dX0_init_95 : decode cX0_init 95 = .ok (.new 31, 3) := by decide +kernel
theorem dX0_init_98 : decode cX0_init 98 = .ok (.dup, 1) := by decide +kernel
theorem dX0_init_99 : decode cX0_init 99 = .ok (.invokespecial 40, 3) := by decide +kernel
theorem dX0_init_102 : decode cX0_init 102 = .ok (.putfield 48, 3) := by decide +kernel
theorem dX0_init_105 : decode cX0_init 105 = .ok (.aload_n 0, 1) := by decide +kernel
theorem dX0_init_106 : decode cX0_init 106 = .ok (.new 31, 3) := by decide +kernel
theorem dX0_init_109 : decode cX0_init 109 = .ok (.dup, 1) := by decide +kernel
theorem dX0_init_110 : decode cX0_init 110 = .ok (.invokespecial 40, 3) := by decide +kernel
theorem dX0_init_113 : decode cX0_init 113 = .ok (.putfield 51, 3) := by decide +kernel
theorem dX0_init_116 : decode cX0_init 116 = .ok (.aload_n 0, 1) := by decide +kernel
theorem dX0_init_117 : decode cX0_init 117 = .ok (.new 31, 3) := by decide +kernel
theorem dX0_init_120 : decode cX0_init 120 = .ok (.dup, 1) := by decide +kernel
theorem dX0_init_121 : decode cX0_init 121 = .ok (.invokespecial 40, 3) := by decide +kernel
theorem dX0_init_124 : decode cX0_init 124 = .ok (.putfield 54, 3) := by decide +kernel
theorem dX0_init_127 : decode cX0_init 127 = .ok (.aload_n 0, 1) := by decide +kernel
theorem dX0_init_128 : decode cX0_init 128 = .ok (.aload_n 1, 1) := by decide +kernel
theorem dX0_init_129 : decode cX0_init 129 = .ok (.putfield 57, 3) := by decide +kernel
theorem dX0_init_132 : decode cX0_init 132 = .ok (.aload_n 0, 1) := by decide +kernel
theorem dX0_init_133 : decode cX0_init 133 = .ok (.aload_n 2, 1) := by decide +kernel
theorem dX0_init_134 : decode cX0_init 134 = .ok (.putfield 61, 3) := by decide +kernel
theorem dX0_init_137 : decode cX0_init 137 = .ok (.aload_n 0, 1) := by decide +kernel
theorem dX0_init_138 : decode cX0_init 138 = .ok (.new 65, 3) := by decide +kernel
theorem dX0_init_141 : decode cX0_init 141 = .ok (.dup, 1) := by decide +kernel
theorem dX0_init_142 : decode cX0_init 142 = .ok (.aload_n 1, 1) := by decide +kernel
theorem dX0_init_143 : decode cX0_init 143 = .ok (.bipush 30, 2) := by decide +kernel
theorem dX0_init_145 : decode cX0_init 145 = .ok (.invokespecial 67, 3) := by decide +kernel
theorem dX0_init_148 : decode cX0_init 148 = .ok (.putfield 70, 3) := by decide +kernel
theorem dX0_init_151 : decode cX0_init 151 = .ok (.aload_n 0, 1) := by decide +kernel
theorem dX0_init_152 : decode cX0_init 152 = .ok (.new 65, 3) := by decide +kernel
theorem dX0_init_155 : decode cX0_init 155 = .ok (.dup, 1) := by decide +kernel
theorem dX0_init_156 : decode cX0_init 156 = .ok (.aload_n 1, 1) := by decide +kernel
theorem dX0_init_157 : decode cX0_init 157 = .ok (.bipush 30, 2) := by decide +kernel
theorem dX0_init_159 : decode cX0_init 159 = .ok (.invokespecial 67, 3) := by decide +kernel
theorem dX0_init_162 : decode cX0_init 162 = .ok (.putfield 74, 3) := by decide +kernel
theorem dX0_init_165 : decode cX0_init 165 = .ok (.iconst 0, 1) := by decide +kernel
theorem dX0_init_166 : decode cX0_init 166 = .ok (.istore_n 3, 1) := by decide +kernel
theorem dX0_init_167 : decode cX0_init 167 = .ok (.iload_n 3, 1) := by decide +kernel
theorem dX0_init_168 : decode cX0_init 168 = .ok (.bipush 30, 2) := by decide +kernel
theorem dX0_init_170 : decode cX0_init 170 = .ok (.if_icmp .ge 35, 3) := by decide +kernel
theorem dX0_init_173 : decode cX0_init 173 = .ok (.aload_n 0, 1) := by decide +kernel
theorem dX0_init_174 : decode cX0_init 174 = .ok (.getfield 33, 3) := by decide +kernel
theorem dX0_init_177 : decode cX0_init 177 = .ok (.iload_n 3, 1) := by decide +kernel
theorem dX0_init_178 : decode cX0_init 178 = .ok (.new 31, 3) := by decide +kernel
theorem dX0_init_181 : decode cX0_init 181 = .ok (.dup, 1) := by decide +kernel
theorem dX0_init_182 : decode cX0_init 182 = .ok (.invokespecial 40, 3) := by decide +kernel
theorem dX0_init_185 : decode cX0_init 185 = .ok (.aastore, 1) := by decide +kernel
theorem dX0_init_186 : decode cX0_init 186 = .ok (.aload_n 0, 1) := by decide +kernel
theorem dX0_init_187 : decode cX0_init 187 = .ok (.getfield 37, 3) := by decide +kernel
theorem dX0_init_190 : decode cX0_init 190 = .ok (.iload_n 3, 1) := by decide +kernel
theorem dX0_init_191 : decode cX0_init 191 = .ok (.new 31, 3) := by decide +kernel
theorem dX0_init_194 : decode cX0_init 194 = .ok (.dup, 1) := by decide +kernel
theorem dX0_init_195 : decode cX0_init 195 = .ok (.invokespecial 40, 3) := by decide +kernel
theorem dX0_init_198 : decode cX0_init 198 = .ok (.aastore, 1) := by decide +kernel
theorem dX0_init_199 : decode cX0_init 199 = .ok (.iinc 3 1, 3) := by decide +kernel
theorem dX0_init_202 : decode cX0_init 202 = .ok (.goto (-35), 3) := by decide +kernel
theorem dX0_init_205 : decode cX0_init 205 = .ok (.return_, 1) := by decide +kernel
theorem dX1_init_0 : decode cX1_init 0 = .ok (.aload_n 0, 1) := by decide +kernel
theorem dX1_init_1 : decode cX1_init 1 = .ok (.invokespecial 1, 3) := by decide +kernel
theorem dX1_init_4 : decode cX1_init 4 = .ok (.aload_n 0, 1) := by decide +kernel
theorem dX1_init_5 : decode cX1_init 5 = .ok (.iconst 3, 1) := by decide +kernel
theorem dX1_init_6 : decode cX1_init 6 = .ok (.newarray .int, 2) := by decide +kernel
theorem dX1_init_8 : decode cX1_init 8 = .ok (.putfield 7, 3) := by decide +kernel
theorem dX1_init_11 : decode cX1_init 11 = .ok (.return_, 1) := by decide +kernel
set_option maxRecDepth 20000 in
theorem ggX2_init_X6_init : GoodIn wsX2_init wsX6_init := goodIn_r _ [18, 19, 2, 3, 20, 21, 22, 23, 24, 25] (by decide +kernel) (by decide +kernel)
set_option maxRecDepth 20000 in
theorem gX2_init_X6_init_n11 : GoodIn wsX2_init (wsX6_init) := ggX2_init_X6_init
theorem dX2_init_0 : decode cX2_init 0 = .ok (.aload_n 0, 1) := by decide +kernel
theorem dX2_init_1 : decode cX2_init 1 = .ok (.invokespecial 3, 3) := by decide +kernel
theorem dX2_init_4 : decode cX2_init 4 = .ok (.aload_n 0, 1) := by decide +kernel
theorem dX2_init_5 : decode cX2_init 5 = .ok (.new 9, 3) := by decide +kernel
theorem dX2_init_8 : decode cX2_init 8 = .ok (.dup, 1) := by decide +kernel
theorem dX2_init_9 : decode cX2_init 9 = .ok (.invokespecial 11, 3) := by decide +kernel
theorem dX2_init_12 : decode cX2_init 12 = .ok (.putfield 12, 3) := by decide +kernel
theorem dX2_init_15 : decode cX2_init 15 = .ok (.aload_n 0, 1) := by decide +kernel
theorem dX2_init_16 : decode cX2_init 16 = .ok (.bipush 18, 2) := by decide +kernel
theorem dX2_init_18 : decode cX2_init 18 = .ok (.anewarray 9, 3) := by decide +kernel
theorem dX2_init_21 : decode cX2_init 21 = .ok (.putfield 18, 3) := by decide +kernel
theorem dX2_init_24 : decode cX2_init 24 = .ok (.aload_n 0, 1) := by decide +kernel
theorem dX2_init_25 : decode cX2_init 25 = .ok (.iconst 3, 1) := by decide +kernel
theorem dX2_init_26 : decode cX2_init 26 = .ok (.anewarray 9, 3) := by decide +kernel
theorem dX2_init_29 : decode cX2_init 29 = .ok (.putfield 22, 3) := by decide +kernel
theorem dX2_init_32 : decode cX2_init 32 = .ok (.aload_n 0, 1) := by decide +kernel
theorem dX2_init_33 : decode cX2_init 33 = .ok (.iconst 4, 1) := by decide +kernel
theorem dX2_init_34 : decode cX2_init 34 = .ok (.anewarray 9, 3) := by decide +kernel
theorem dX2_init_37 : decode cX2_init 37 = .ok (.putfield 25, 3) := by decide +kernel
theorem dX2_init_40 : decode cX2_init 40 = .ok (.aload_n 0, 1) := by decide +kernel
theorem dX2_init_41 : decode cX2_init 41 = .ok (.new 9, 3) := by decide +kernel
theorem dX2_init_44 : decode cX2_init 44 = .ok (.dup, 1) := by decide +kernel
theorem dX2_init_45 : decode cX2_init 45 = .ok (.invokespecial 11, 3) := by decide +kernel
theorem dX2_init_48 : decode cX2_init 48 = .ok (.putfield 28, 3) := by decide +kernel
theorem dX2_init_51 : decode cX2_init 51 = .ok (.aload_n 0, 1) := by decide +kernel
theorem dX2_init_52 : decode cX2_init 52 = .ok (.new 9, 3) := by decide +kernel
theorem dX2_init_55 : decode cX2_init 55 = .ok (.dup, 1) := by decide +kernel
theorem dX2_init_56 : decode cX2_init 56 = .ok (.invokespecial 11, 3) := by decide +kernel
theorem dX2_init_59 : decode cX2_init 59 = .ok (.putfield 31, 3) := by decide +kernel
theorem dX2_init_62 : decode cX2_init 62 = .ok (.aload_n 0, 1) := by decide +kernel
theorem dX2_init_63 : decode cX2_init 63 = .ok (.iconst 2, 1) := by decide +kernel
theorem dX2_init_64 : decode cX2_init 64 = .ok (.newarray .int, 2) := by decide +kernel
theorem dX2_init_66 : decode cX2_init 66 = .ok (.putfield 34, 3) := by decide +kernel
theorem dX2_init_69 : decode cX2_init 69 = .ok (.aload_n 0, 1) := by decide +kernel
theorem dX2_init_70 : decode cX2_init 70 = .ok (.aload_n 1, 1) := by decide +kernel
theorem dX2_init_71 : decode cX2_init 71 = .ok (.putfield 38, 3) := by decide +kernel
theorem dX2_init_74 : decode cX2_init 74 = .ok (.aload_n 0, 1) := by decide +kernel
theorem dX2_init_75 : decode cX2_init 75 = .ok (.aload_n 2, 1) := by decide +kernel
theorem dX2_init_76 : decode cX2_init 76 = .ok (.putfield 42, 3) := by decide +kernel
theorem dX2_init_79 : decode cX2_init 79 = .ok (.iconst 0, 1) := by decide +kernel
theorem dX2_init_80 : decode cX2_init 80 = .ok (.istore_n 3, 1) := by decide +kernel
theorem dX2_init_81 : decode cX2_init 81 = .ok (.iload_n 3, 1) := by decide +kernel
theorem dX2_init_82 : decode cX2_init 82 = .ok (.aload_n 0, 1) := by decide +kernel
theorem dX2_init_83 : decode cX2_init 83 = .ok (.getfield 18, 3) := by decide +kernel
theorem dX2_init_86 : decode cX2_init 86 = .ok (.arraylength, 1) := by decide +kernel
theorem dX2_init_87 : decode cX2_init 87 = .ok (.if_icmp .ge 22, 3) := by decide +kernel
theorem dX2_init_90 : decode cX2_init 90 = .ok (.aload_n 0, 1) := by decide +kernel
theorem dX2_init_91 : decode cX2_init 91 = .ok (.getfield 18, 3) := by decide +kernel
theorem dX2_init_94 : decode cX2_init 94 = .ok (.iload_n 3, 1) := by decide +kernel
theorem dX2_init_95 : decode cX2_init 95 = .ok (.new 9, 3) := by decide +kernel
theorem dX2_init_98 : decode cX2_init 98 = .ok (.dup, 1) := by decide +kernel
theorem dX2_init_99 : decode cX2_init 99 = .ok (.invokespecial 11, 3) := by decide +kernel
theorem dX2_init_102 : decode cX2_init 102 = .ok (.aastore, 1) := by decide +kernel
theorem dX2_init_103 : decode cX2_init 103 = .ok (.iinc 3 1, 3) := by decide +kernel
theorem dX2_init_106 : decode cX2_init 106 = .ok (.goto (-25), 3) := by decide +kernel
theorem dX2_init_109 : decode cX2_init 109 = .ok (.iconst 0, 1) := by decide +kernel
theorem dX2_init_110 : decode cX2_init 110 = .ok (.istore_n 3, 1) := by decide +kernel
theorem dX2_init_111 : decode cX2_init 111 = .ok (.iload_n 3, 1) := by decide +kernel
theorem dX2_init_112 : decode cX2_init 112 = .ok (.aload_n 0, 1) := by decide +kernel
theorem dX2_init_113 : decode cX2_init 113 = .ok (.getfield 22, 3) := by decide +kernel
theorem dX2_init_116 : decode cX2_init 116 = .ok (.arraylength, 1) := by decide +kernel
theorem dX2_init_117 : decode cX2_init 117 = .ok (.if_icmp .ge 22, 3) := by decide +kernel
theorem dX2_init_120 : decode cX2_init 120 = .ok (.aload_n 0, 1) := by decide +kernel
theorem dX2_init_121 : decode cX2_init 121 = .ok (.getfield 22, 3) := by decide +kernel
theorem dX2_init_124 : decode cX2_init 124 = .ok (.iload_n 3, 1) := by decide +kernel
theorem dX2_init_125 : decode cX2_init 125 = .ok (.new 9, 3) := by decide +kernel
theorem dX2_init_128 : decode cX2_init 128 = .ok (.dup, 1) := by decide +kernel
theorem dX2_init_129 : decode cX2_init 129 = .ok (.invokespecial 11, 3) := by decide +kernel
theorem dX2_init_132 : decode cX2_init 132 = .ok (.aastore, 1) := by decide +kernel
theorem dX2_init_133 : decode cX2_init 133 = .ok (.iinc 3 1, 3) := by decide +kernel
theorem dX2_init_136 : decode cX2_init 136 = .ok (.goto (-25), 3) := by decide +kernel
theorem dX2_init_139 : decode cX2_init 139 = .ok (.iconst 0, 1) := by decide +kernel
theorem dX2_init_140 : decode cX2_init 140 = .ok (.istore_n 3, 1) := by decide +kernel
theorem dX2_init_141 : decode cX2_init 141 = .ok (.iload_n 3, 1) := by decide +kernel
theorem dX2_init_142 : decode cX2_init 142 = .ok (.aload_n 0, 1) := by decide +kernel
theorem dX2_init_143 : decode cX2_init 143 = .ok (.getfield 25, 3) := by decide +kernel
theorem dX2_init_146 : decode cX2_init 146 = .ok (.arraylength, 1) := by decide +kernel
theorem dX2_init_147 : decode cX2_init 147 = .ok (.if_icmp .ge 22, 3) := by decide +kernel
theorem dX2_init_150 : decode cX2_init 150 = .ok (.aload_n 0, 1) := by decide +kernel
theorem dX2_init_151 : decode cX2_init 151 = .ok (.getfield 25, 3) := by decide +kernel
theorem dX2_init_154 : decode cX2_init 154 = .ok (.iload_n 3, 1) := by decide +kernel
theorem dX2_init_155 : decode cX2_init 155 = .ok (.new 9, 3) := by decide +kernel
theorem dX2_init_158 : decode cX2_init 158 = .ok (.dup, 1) := by decide +kernel
theorem dX2_init_159 : decode cX2_init 159 = .ok (.invokespecial 11, 3) := by decide +kernel
theorem dX2_init_162 : decode cX2_init 162 = .ok (.aastore, 1) := by decide +kernel
theorem dX2_init_163 : decode cX2_init 163 = .ok (.iinc 3 1, 3) := by decide +kernel
theorem dX2_init_166 : decode cX2_init 166 = .ok (.goto (-25), 3) := by decide +kernel
theorem dX2_init_169 : decode cX2_init 169 = .ok (.return_, 1) := by decide +kernel
set_option maxRecDepth 20000 in
theorem ggX3_init_X5_init : GoodIn wsX3_init wsX5_init := goodIn_r _ [15, 16, 2, 3, 17, 18, 19, 20, 21, 22, 23, 24, 25, 26, 27, 28, 29, 30, 31, 32, 33, 34, 35, 36, 6, 37, 38, 39, 40, 41, 42, 43, 44, 45, 71, 72, 73, 53, 54, 55, 56, 57, 58, 59, 60, 61, 62, 63, 64, 65, 66, 67, 68, 69, 70] (by decide +kernel) (by decide +kernel)
set_option maxRecDepth 20000 in
theorem gX3_init_X5_init : GoodIn wsX3_init (wsX5_init) := ggX3_init_X5_init
theorem dX3_init_0 : decode cX3_init 0 = .ok (.aload_n 0, 1) := by decide +kernel
theorem dX3_init_1 : decode cX3_init 1 = .ok (.invokespecial 3, 3) := by decide +kernel
theorem dX3_init_4 : decode cX3_init 4 = .ok (.aload_n 0, 1) := by decide +kernel
theorem dX3_init_5 : decode cX3_init 5 = .ok (.bipush 30, 2) := by decide +kernel
theorem dX3_init_7 : decode cX3_init 7 = .ok (.newarray .long, 2) := by decide +kernel
theorem dX3_init_9 : decode cX3_init 9 = .ok (.putfield 9, 3) := by decide +kernel
theorem dX3_init_12 : decode cX3_init 12 = .ok (.aload_n 0, 1) := by decide +kernel
theorem dX3_init_13 : decode cX3_init 13 = .ok (.iconst 4, 1) := by decide +kernel
theorem dX3_init_14 : decode cX3_init 14 = .ok (.newarray .int, 2) := by decide +kernel
theorem dX3_init_16 : decode cX3_init 16 = .ok (.putfield 15, 3) := by decide +kernel
theorem dX3_init_19 : decode cX3_init 19 = .ok (.aload_n 0, 1) := by decide +kernel
theorem dX3_init_20 : decode cX3_init 20 = .ok (.iconst (-1), 1) := by decide +kernel
theorem dX3_init_21 : decode cX3_init 21 = .ok (.putfield 19, 3) := by decide +kernel
theorem dX3_init_24 : decode cX3_init 24 = .ok (.aload_n 0, 1) := by decide +kernel
theorem dX3_init_25 : decode cX3_init 25 = .ok (.new 23, 3) := by decide +kernel
theorem dX3_init_28 : decode cX3_init 28 = .ok (.dup, 1) := by decide +kernel
theorem dX3_init_29 : decode cX3_init 29 = .ok (.aload_n 1, 1) := by decide +kernel
theorem dX3_init_30 : decode cX3_init 30 = .ok (.iload_n 2, 1) := by decide +kernel
theorem dX3_init_31 : decode cX3_init 31 = .ok (.invokespecial 25, 3) := by decide +kernel
theorem dX3_init_34 : decode cX3_init 34 = .ok (.putfield 28, 3) := by decide +kernel
theorem dX3_init_37 : decode cX3_init 37 = .ok (.return_, 1) := by decide +kernel
set_option maxRecDepth 20000 in
theorem ggX4_init_X6_init : GoodIn wsX4_init wsX6_init := goodIn_r _ [20, 21, 2, 3, 22, 23, 24, 68, 69, 70] (by decide +kernel) (by decide +kernel)
set_option maxRecDepth 20000 in
theorem gX4_init_X6_init_n23 : GoodIn wsX4_init (wsX6_init) := ggX4_init_X6_init
set_option maxRecDepth 20000 in
theorem ggX4_init_X5_init : GoodIn wsX4_init wsX5_init := goodIn_r _ [27, 28, 2, 3, 29, 30, 31, 32, 33, 34, 35, 36, 37, 38, 39, 40, 41, 42, 43, 44, 45, 46, 47, 48, 49, 50, 51, 52, 53, 54, 55, 56, 57, 58, 89, 90, 91, 71, 72, 73, 74, 75, 76, 77, 78, 79, 80, 81, 82, 83, 84, 85, 86, 87, 88] (by decide +kernel) (by decide +kernel)
set_option maxRecDepth 20000 in
theorem gX4_init_X5_init : GoodIn wsX4_init (wsX5_init) := ggX4_init_X5_init
theorem dX4_init_0 : decode cX4_init 0 = .ok (.aload_n 0, 1) := by decide +kernel
theorem dX4_init_1 : decode cX4_init 1 = .ok (.invokespecial 3, 3) := by decide +kernel
theorem dX4_init_4 : decode cX4_init 4 = .ok (.aload_n 0, 1) := by decide +kernel
theorem dX4_init_5 : decode cX4_init 5 = .ok (.iconst 4, 1) := by decide +kernel
theorem dX4_init_6 : decode cX4_init 6 = .ok (.anewarray 11, 3) := by decide +kernel
theorem dX4_init_9 : decode cX4_init 9 = .ok (.putfield 13, 3) := by decide +kernel
theorem dX4_init_12 : decode cX4_init 12 = .ok (.aload_n 0, 1) := by decide +kernel
theorem dX4_init_13 : decode cX4_init 13 = .ok (.iconst 4, 1) := by decide +kernel
theorem dX4_init_14 : decode cX4_init 14 = .ok (.newarray .boolean, 2) := by decide +kernel
theorem dX4_init_16 : decode cX4_init 16 = .ok (.putfield 17, 3) := by decide +kernel
theorem dX4_init_19 : decode cX4_init 19 = .ok (.aload_n 0, 1) := by decide +kernel
theorem dX4_init_20 : decode cX4_init 20 = .ok (.new 21, 3) := by decide +kernel
theorem dX4_init_23 : decode cX4_init 23 = .ok (.dup, 1) := by decide +kernel
theorem dX4_init_24 : decode cX4_init 24 = .ok (.invokespecial 23, 3) := by decide +kernel
theorem dX4_init_27 : decode cX4_init 27 = .ok (.putfield 24, 3) := by decide +kernel
theorem dX4_init_30 : decode cX4_init 30 = .ok (.aload_n 0, 1) := by decide +kernel
theorem dX4_init_31 : decode cX4_init 31 = .ok (.new 21, 3) := by decide +kernel
theorem dX4_init_34 : decode cX4_init 34 = .ok (.dup, 1) := by decide +kernel
theorem dX4_init_35 : decode cX4_init 35 = .ok (.invokespecial 23, 3) := by decide +kernel
theorem dX4_init_38 : decode cX4_init 38 = .ok (.putfield 28, 3) := by decide +kernel
theorem dX4_init_41 : decode cX4_init 41 = .ok (.aload_n 0, 1) := by decide +kernel
theorem dX4_init_42 : decode cX4_init 42 = .ok (.aload_n 2, 1) := by decide +kernel
theorem dX4_init_43 : decode cX4_init 43 = .ok (.putfield 31, 3) := by decide +kernel
theorem dX4_init_46 : decode cX4_init 46 = .ok (.aload_n 0, 1) := by decide +kernel
theorem dX4_init_47 : decode cX4_init 47 = .ok (.aload_n 3, 1) := by decide +kernel
theorem dX4_init_48 : decode cX4_init 48 = .ok (.putfield 35, 3) := by decide +kernel
theorem dX4_init_51 : decode cX4_init 51 = .ok (.aload_n 0, 1) := by decide +kernel
theorem dX4_init_52 : decode cX4_init 52 = .ok (.new 11, 3) := by decide +kernel
theorem dX4_init_55 : decode cX4_init 55 = .ok (.dup, 1) := by decide +kernel
theorem dX4_init_56 : decode cX4_init 56 = .ok (.aload_n 1, 1) := by decide +kernel
theorem dX4_init_57 : decode cX4_init 57 = .ok (.iconst 3, 1) := by decide +kernel
theorem dX4_init_58 : decode cX4_init 58 = .ok (.invokespecial 38, 3) := by decide +kernel
theorem dX4_init_61 : decode cX4_init 61 = .ok (.putfield 41, 3) := by decide +kernel
theorem dX4_init_64 : decode cX4_init 64 = .ok (.aload_n 0, 1) := by decide +kernel
theorem dX4_init_65 : decode cX4_init 65 = .ok (.new 11, 3) := by decide +kernel
theorem dX4_init_68 : decode cX4_init 68 = .ok (.dup, 1) := by decide +kernel
theorem dX4_init_69 : decode cX4_init 69 = .ok (.aload_n 1, 1) := by decide +kernel
theorem dX4_init_70 : decode cX4_init 70 = .ok (.iconst 3, 1) := by decide +kernel
theorem dX4_init_71 : decode cX4_init 71 = .ok (.invokespecial 38, 3) := by decide +kernel
theorem dX4_init_74 : decode cX4_init 74 = .ok (.putfield 45, 3) := by decide +kernel
theorem dX4_init_77 : decode cX4_init 77 = .ok (.iconst 0, 1) := by decide +kernel
theorem dX4_init_78 : decode cX4_init 78 = .ok (.istore 4, 2) := by decide +kernel
theorem dX4_init_80 : decode cX4_init 80 = .ok (.iload 4, 2) := by decide +kernel
theorem dX4_init_82 : decode cX4_init 82 = .ok (.iconst 4, 1) := by decide +kernel
theorem dX4_init_83 : decode cX4_init 83 = .ok (.if_icmp .ge 26, 3) := by decide +kernel
theorem dX4_init_86 : decode cX4_init 86 = .ok (.aload_n 0, 1) := by decide +kernel
theorem dX4_init_87 : decode cX4_init 87 = .ok (.getfield 13, 3) := by decide +kernel
theorem dX4_init_90 : decode cX4_init 90 = .ok (.iload 4, 2) := by decide +kernel
theorem dX4_init_92 : decode cX4_init 92 = .ok (.new 11, 3) := by decide +kernel
theorem dX4_init_95 : decode cX4_init 95 = .ok (.dup, 1) := by decide +kernel
theorem dX4_init_96 : decode cX4_init 96 = .ok (.aload_n 1, 1) := by decide +kernel
theorem dX4_init_97 : decode cX4_init 97 = .ok (.bipush 10, 2) := by decide +kernel
theorem dX4_init_99 : decode cX4_init 99 = .ok (.invokespecial 38, 3) := by decide +kernel
theorem dX4_init_102 : decode cX4_init 102 = .ok (.aastore, 1) := by decide +kernel
theorem dX4_init_103 : decode cX4_init 103 = .ok (.iinc 4 1, 3) := by decide +kernel
theorem dX4_init_106 : decode cX4_init 106 = .ok (.goto (-26), 3) := by decide +kernel
theorem dX4_init_109 : decode cX4_init 109 = .ok (.return_, 1) := by decide +kernel
set_option maxRecDepth 20000 in
theorem ggX5_init_X1_init : GoodIn wsX5_init wsX1_init := goodIn_r _ [31, 32, 2, 3, 24, 33, 34, 35, 36] (by decide +kernel) (by decide +kernel)
set_option maxRecDepth 20000 in
theorem gX5_init_X1_init_n11 : GoodIn wsX5_init (wsX1_init) := ggX5_init_X1_init
theorem dX5_init_0 : decode cX5_init 0 = .ok (.aload_n 0, 1) := by decide +kernel
theorem dX5_init_1 : decode cX5_init 1 = .ok (.invokespecial 3, 3) := by decide +kernel
theorem dX5_init_4 : decode cX5_init 4 = .ok (.aload_n 0, 1) := by decide +kernel
theorem dX5_init_5 : decode cX5_init 5 = .ok (.new 9, 3) := by decide +kernel
theorem dX5_init_8 : decode cX5_init 8 = .ok (.dup, 1) := by decide +kernel
theorem dX5_init_9 : decode cX5_init 9 = .ok (.invokespecial 11, 3) := by decide +kernel
theorem dX5_init_12 : decode cX5_init 12 = .ok (.putfield 12, 3) := by decide +kernel
theorem dX5_init_15 : decode cX5_init 15 = .ok (.aload_n 0, 1) := by decide +kernel
theorem dX5_init_16 : decode cX5_init 16 = .ok (.new 9, 3) := by decide +kernel
theorem dX5_init_19 : decode cX5_init 19 = .ok (.dup, 1) := by decide +kernel
theorem dX5_init_20 : decode cX5_init 20 = .ok (.invokespecial 11, 3) := by decide +kernel
theorem dX5_init_23 : decode cX5_init 23 = .ok (.putfield 18, 3) := by decide +kernel
theorem dX5_init_26 : decode cX5_init 26 = .ok (.aload_n 0, 1) := by decide +kernel
theorem dX5_init_27 : decode cX5_init 27 = .ok (.new 9, 3) := by decide +kernel
theorem dX5_init_30 : decode cX5_init 30 = .ok (.dup, 1) := by decide +kernel
theorem dX5_init_31 : decode cX5_init 31 = .ok (.invokespecial 11, 3) := by decide +kernel
theorem dX5_init_34 : decode cX5_init 34 = .ok (.putfield 21, 3) := by decide +kernel
theorem dX5_init_37 : decode cX5_init 37 = .ok (.aload_n 0, 1) := by decide +kernel
theorem dX5_init_38 : decode cX5_init 38 = .ok (.new 9, 3) := by decide +kernel
theorem dX5_init_41 : decode cX5_init 41 = .ok (.dup, 1) := by decide +kernel
theorem dX5_init_42 : decode cX5_init 42 = .ok (.invokespecial 11, 3) := by decide +kernel
theorem dX5_init_45 : decode cX5_init 45 = .ok (.putfield 24, 3) := by decide +kernel
theorem dX5_init_48 : decode cX5_init 48 = .ok (.aload_n 0, 1) := by decide +kernel
theorem dX5_init_49 : decode cX5_init 49 = .ok (.new 9, 3) := by decide +kernel
theorem dX5_init_52 : decode cX5_init 52 = .ok (.dup, 1) := by decide +kernel
theorem dX5_init_53 : decode cX5_init 53 = .ok (.invokespecial 11, 3) := by decide +kernel
theorem dX5_init_56 : decode cX5_init 56 = .ok (.putfield 27, 3) := by decide +kernel
theorem dX5_init_59 : decode cX5_init 59 = .ok (.aload_n 0, 1) := by decide +kernel
theorem dX5_init_60 : decode cX5_init 60 = .ok (.new 9, 3) := by decide +kernel
theorem dX5_init_63 : decode cX5_init 63 = .ok (.dup, 1) := by decide +kernel
theorem dX5_init_64 : decode cX5_init 64 = .ok (.invokespecial 11, 3) := by decide +kernel
theorem dX5_init_67 : decode cX5_init 67 = .ok (.putfield 30, 3) := by decide +kernel
theorem dX5_init_70 : decode cX5_init 70 = .ok (.aload_n 0, 1) := by decide +kernel
theorem dX5_init_71 : decode cX5_init 71 = .ok (.new 9, 3) := by decide +kernel
theorem dX5_init_74 : decode cX5_init 74 = .ok (.dup, 1) := by decide +kernel
theorem dX5_init_75 : decode cX5_init 75 = .ok (.invokespecial 11, 3) := by decide +kernel
theorem dX5_init_78 : decode cX5_init 78 = .ok (.putfield 33, 3) := by decide +kernel
theorem dX5_init_81 : decode cX5_init 81 = .ok (.aload_n 0, 1) := by decide +kernel
theorem dX5_init_82 : decode cX5_init 82 = .ok (.aload_n 1, 1) := by decide +kernel
theorem dX5_init_83 : decode cX5_init 83 = .ok (.putfield 36, 3) := by decide +kernel
theorem dX5_init_86 : decode cX5_init 86 = .ok (.aload_n 0, 1) := by decide +kernel
theorem dX5_init_87 : decode cX5_init 87 = .ok (.iconst 1, 1) := by decide +kernel
theorem dX5_init_88 : decode cX5_init 88 = .ok (.iload_n 2, 1) := by decide +kernel
theorem dX5_init_89 : decode cX5_init 89 = .ok (.bipush 30, 2) := by decide +kernel
theorem dX5_init_91 : decode cX5_init 91 = .ok (.invokestatic 40, 3) := by decide +kernel
theorem dX5_init_94 : decode cX5_init 94 = .ok (.invokestatic 46, 3) := by decide +kernel
theorem dX5_init_97 : decode cX5_init 97 = .ok (.putfield 49, 3) := by decide +kernel
theorem dX5_init_100 : decode cX5_init 100 = .ok (.aload_n 0, 1) := by decide +kernel
theorem dX5_init_101 : decode cX5_init 101 = .ok (.aload_n 0, 1) := by decide +kernel
theorem dX5_init_102 : decode cX5_init 102 = .ok (.getfield 49, 3) := by decide +kernel
theorem dX5_init_105 : decode cX5_init 105 = .ok (.aload_n 0, 1) := by decide +kernel
theorem dX5_init_106 : decode cX5_init 106 = .ok (.getfield 49, 3) := by decide +kernel
theorem dX5_init_109 : decode cX5_init 109 = .ok (.imul, 1) := by decide +kernel
theorem dX5_init_110 : decode cX5_init 110 = .ok (.anewarray 9, 3) := by decide +kernel
theorem dX5_init_113 : decode cX5_init 113 = .ok (.putfield 53, 3) := by decide +kernel
theorem dX5_init_116 : decode cX5_init 116 = .ok (.aload_n 0, 1) := by decide +kernel
theorem dX5_init_117 : decode cX5_init 117 = .ok (.aload_n 0, 1) := by decide +kernel
theorem dX5_init_118 : decode cX5_init 118 = .ok (.getfield 49, 3) := by decide +kernel
theorem dX5_init_121 : decode cX5_init 121 = .ok (.newarray .int, 2) := by decide +kernel
theorem dX5_init_123 : decode cX5_init 123 = .ok (.putfield 57, 3) := by decide +kernel
theorem dX5_init_126 : decode cX5_init 126 = .ok (.aload_n 0, 1) := by decide +kernel
theorem dX5_init_127 : decode cX5_init 127 = .ok (.aload_n 0, 1) := by decide +kernel
theorem dX5_init_128 : decode cX5_init 128 = .ok (.getfield 49, 3) := by decide +kernel
theorem dX5_init_131 : decode cX5_init 131 = .ok (.newarray .int, 2) := by decide +kernel
theorem dX5_init_133 : decode cX5_init 133 = .ok (.putfield 61, 3) := by decide +kernel
theorem dX5_init_136 : decode cX5_init 136 = .ok (.aload_n 0, 1) := by decide +kernel
theorem dX5_init_137 : decode cX5_init 137 = .ok (.aload_n 0, 1) := by decide +kernel
theorem dX5_init_138 : decode cX5_init 138 = .ok (.getfield 49, 3) := by decide +kernel
theorem dX5_init_141 : decode cX5_init 141 = .ok (.anewarray 9, 3) := by decide +kernel
theorem dX5_init_144 : decode cX5_init 144 = .ok (.putfield 64, 3) := by decide +kernel
theorem dX5_init_147 : decode cX5_init 147 = .ok (.aload_n 0, 1) := by decide +kernel
theorem dX5_init_148 : decode cX5_init 148 = .ok (.aload_n 0, 1) := by decide +kernel
theorem dX5_init_149 : decode cX5_init 149 = .ok (.getfield 49, 3) := by decide +kernel
theorem dX5_init_152 : decode cX5_init 152 = .ok (.newarray .int, 2) := by decide +kernel
theorem dX5_init_154 : decode cX5_init 154 = .ok (.putfield 67, 3) := by decide +kernel
theorem dX5_init_157 : decode cX5_init 157 = .ok (.aload_n 0, 1) := by decide +kernel
theorem dX5_init_158 : decode cX5_init 158 = .ok (.aload_n 0, 1) := by decide +kernel
theorem dX5_init_159 : decode cX5_init 159 = .ok (.getfield 49, 3) := by decide +kernel
theorem dX5_init_162 : decode cX5_init 162 = .ok (.anewarray 9, 3) := by decide +kernel
theorem dX5_init_165 : decode cX5_init 165 = .ok (.putfield 70, 3) := by decide +kernel
theorem dX5_init_168 : decode cX5_init 168 = .ok (.iconst 0, 1) := by decide +kernel
theorem dX5_init_169 : decode cX5_init 169 = .ok (.istore_n 3, 1) := by decide +kernel
theorem dX5_init_170 : decode cX5_init 170 = .ok (.iload_n 3, 1) := by decide +kernel
theorem dX5_init_171 : decode cX5_init 171 = .ok (.aload_n 0, 1) := by decide +kernel
theorem dX5_init_172 : decode cX5_init 172 = .ok (.getfield 49, 3) := by decide +kernel
theorem dX5_init_175 : decode cX5_init 175 = .ok (.aload_n 0, 1) := by decide +kernel
theorem dX5_init_176 : decode cX5_init 176 = .ok (.getfield 49, 3) := by decide +kernel
theorem dX5_init_179 : decode cX5_init 179 = .ok (.imul, 1) := by decide +kernel
theorem dX5_init_180 : decode cX5_init 180 = .ok (.if_icmp .ge 22, 3) := by decide +kernel
theorem dX5_init_183 : decode cX5_init 183 = .ok (.aload_n 0, 1) := by decide +kernel
theorem dX5_init_184 : decode cX5_init 184 = .ok (.getfield 53, 3) := by decide +kernel
theorem dX5_init_187 : decode cX5_init 187 = .ok (.iload_n 3, 1) := by decide +kernel
theorem dX5_init_188 : decode cX5_init 188 = .ok (.new 9, 3) := by decide +kernel
theorem dX5_init_191 : decode cX5_init 191 = .ok (.dup, 1) := by decide +kernel
theorem dX5_init_192 : decode cX5_init 192 = .ok (.invokespecial 11, 3) := by decide +kernel
theorem dX5_init_195 : decode cX5_init 195 = .ok (.aastore, 1) := by decide +kernel
theorem dX5_init_196 : decode cX5_init 196 = .ok (.iinc 3 1, 3) := by decide +kernel
theorem dX5_init_199 : decode cX5_init 199 = .ok (.goto (-29), 3) := by decide +kernel
theorem dX5_init_202 : decode cX5_init 202 = .ok (.iconst 0, 1) := by decide +kernel
theorem dX5_init_203 : decode cX5_init 203 = .ok (.istore_n 3, 1) := by decide +kernel
theorem dX5_init_204 : decode cX5_init 204 = .ok (.iload_n 3, 1) := by decide +kernel
theorem dX5_init_205 : decode cX5_init 205 = .ok (.aload_n 0, 1) := by decide +kernel
theorem dX5_init_206 : decode cX5_init 206 = .ok (.getfield 49, 3) := by decide +kernel
theorem dX5_init_209 : decode cX5_init 209 = .ok (.if_icmp .ge 35, 3) := by decide +kernel
theorem dX5_init_212 : decode cX5_init 212 = .ok (.aload_n 0, 1) := by decide +kernel
theorem dX5_init_213 : decode cX5_init 213 = .ok (.getfield 64, 3) := by decide +kernel
theorem dX5_init_216 : decode cX5_init 216 = .ok (.iload_n 3, 1) := by decide +kernel
theorem dX5_init_217 : decode cX5_init 217 = .ok (.new 9, 3) := by decide +kernel
theorem dX5_init_220 : decode cX5_init 220 = .ok (.dup, 1) := by decide +kernel
theorem dX5_init_221 : decode cX5_init 221 = .ok (.invokespecial 11, 3) := by decide +kernel
theorem dX5_init_224 : decode cX5_init 224 = .ok (.aastore, 1) := by decide +kernel
theorem dX5_init_225 : decode cX5_init 225 = .ok (.aload_n 0, 1) := by decide +kernel
theorem dX5_init_226 : decode cX5_init 226 = .ok (.getfield 70, 3) := by decide +kernel
theorem dX5_init_229 : decode cX5_init 229 = .ok (.iload_n 3, 1) := by decide +kernel
theorem dX5_init_230 : decode cX5_init 230 = .ok (.new 9, 3) := by decide +kernel
theorem dX5_init_233 : decode cX5_init 233 = .ok (.dup, 1) := by decide +kernel
theorem dX5_init_234 : decode cX5_init 234 = .ok (.invokespecial 11, 3) := by decide +kernel
theorem dX5_init_237 : decode cX5_init 237 = .ok (.aastore, 1) := by decide +kernel
theorem dX5_init_238 : decode cX5_init 238 = .ok (.iinc 3 1, 3) := by decide +kernel
theorem dX5_init_241 : decode cX5_init 241 = .ok (.goto (-37), 3) := by decide +kernel
theorem dX5_init_244 : decode cX5_init 244 = .ok (.return_, 1) := by decide +kernel
theorem dX6_init_0 : decode cX6_init 0 = .ok (.aload_n 0, 1) := by decide +kernel
theorem dX6_init_1 : decode cX6_init 1 = .ok (.invokespecial 1, 3) := by decide +kernel
theorem dX6_init_4 : decode cX6_init 4 = .ok (.aload_n 0, 1) := by decide +kernel
theorem dX6_init_5 : decode cX6_init 5 = .ok (.bipush 16, 2) := by decide +kernel
theorem dX6_init_7 : decode cX6_init 7 = .ok (.newarray .long, 2) := by decide +kernel
theorem dX6_init_9 : decode cX6_init 9 = .ok (.putfield 7, 3) := by decide +kernel
theorem dX6_init_12 : decode cX6_init 12 = .ok (.aload_n 0, 1) := by decide +kernel
theorem dX6_init_13 : decode cX6_init 13 = .ok (.bipush 16, 2) := by decide +kernel
theorem dX6_init_15 : decode cX6_init 15 = .ok (.newarray .long, 2) := by decide +kernel
theorem dX6_init_17 : decode cX6_init 17 = .ok (.putfield 13, 3) := by decide +kernel
theorem dX6_init_20 : decode cX6_init 20 = .ok (.return_, 1) := by decide +kernel
set_option maxRecDepth 20000 in
theorem ggX7_init_X6_init : GoodIn wsX7_init wsX6_init := goodIn_r _ [13, 14, 2, 3, 15, 16, 17, 28, 29, 30] (by decide +kernel) (by decide +kernel)
set_option maxRecDepth 20000 in
theorem gX7_init_X6_init_n17 : GoodIn wsX7_init (wsX6_init) := ggX7_init_X6_init
theorem dX7_init_0 : decode cX7_init 0 = .ok (.aload_n 0, 1) := by decide +kernel
theorem dX7_init_1 : decode cX7_init 1 = .ok (.invokespecial 3, 3) := by decide +kernel
theorem dX7_init_4 : decode cX7_init 4 = .ok (.aload_n 0, 1) := by decide +kernel
theorem dX7_init_5 : decode cX7_init 5 = .ok (.bipush 28, 2) := by decide +kernel
theorem dX7_init_7 : decode cX7_init 7 = .ok (.anewarray 11, 3) := by decide +kernel
theorem dX7_init_10 : decode cX7_init 10 = .ok (.putfield 13, 3) := by decide +kernel
theorem dX7_init_13 : decode cX7_init 13 = .ok (.aload_n 0, 1) := by decide +kernel
theorem dX7_init_14 : decode cX7_init 14 = .ok (.new 11, 3) := by decide +kernel
theorem dX7_init_17 : decode cX7_init 17 = .ok (.dup, 1) := by decide +kernel
theorem dX7_init_18 : decode cX7_init 18 = .ok (.invokespecial 17, 3) := by decide +kernel
theorem dX7_init_21 : decode cX7_init 21 = .ok (.putfield 18, 3) := by decide +kernel
theorem dX7_init_24 : decode cX7_init 24 = .ok (.aload_n 0, 1) := by decide +kernel
theorem dX7_init_25 : decode cX7_init 25 = .ok (.iconst (-1), 1) := by decide +kernel
theorem dX7_init_26 : decode cX7_init 26 = .ok (.putfield 22, 3) := by decide +kernel
theorem dX7_init_29 : decode cX7_init 29 = .ok (.aload_n 0, 1) := by decide +kernel
theorem dX7_init_30 : decode cX7_init 30 = .ok (.aload_n 1, 1) := by decide +kernel
theorem dX7_init_31 : decode cX7_init 31 = .ok (.putfield 26, 3) := by decide +kernel
theorem dX7_init_34 : decode cX7_init 34 = .ok (.aload_n 0, 1) := by decide +kernel
theorem dX7_init_35 : decode cX7_init 35 = .ok (.aload_n 2, 1) := by decide +kernel
theorem dX7_init_36 : decode cX7_init 36 = .ok (.putfield 30, 3) := by decide +kernel
theorem dX7_init_39 : decode cX7_init 39 = .ok (.iconst 0, 1) := by decide +kernel
theorem dX7_init_40 : decode cX7_init 40 = .ok (.istore_n 3, 1) := by decide +kernel
theorem dX7_init_41 : decode cX7_init 41 = .ok (.iload_n 3, 1) := by decide +kernel
theorem dX7_init_42 : decode cX7_init 42 = .ok (.aload_n 0, 1) := by decide +kernel
theorem dX7_init_43 : decode cX7_init 43 = .ok (.getfield 13, 3) := by decide +kernel
theorem dX7_init_46 : decode cX7_init 46 = .ok (.arraylength, 1) := by decide +kernel
theorem dX7_init_47 : decode cX7_init 47 = .ok (.if_icmp .ge 22, 3) := by decide +kernel
theorem dX7_init_50 : decode cX7_init 50 = .ok (.aload_n 0, 1) := by decide +kernel
theorem dX7_init_51 : decode cX7_init 51 = .ok (.getfield 13, 3) := by decide +kernel
theorem dX7_init_54 : decode cX7_init 54 = .ok (.iload_n 3, 1) := by decide +kernel
theorem dX7_init_55 : decode cX7_init 55 = .ok (.new 11, 3) := by decide +kernel
theorem dX7_init_58 : decode cX7_init 58 = .ok (.dup, 1) := by decide +kernel
theorem dX7_init_59 : decode cX7_init 59 = .ok (.invokespecial 17, 3) := by decide +kernel
theorem dX7_init_62 : decode cX7_init 62 = .ok (.aastore, 1) := by decide +kernel
theorem dX7_init_63 : decode cX7_init 63 = .ok (.iinc 3 1, 3) := by decide +kernel
theorem dX7_init_66 : decode cX7_init 66 = .ok (.goto (-25), 3) := by decide +kernel
theorem dX7_init_69 : decode cX7_init 69 = .ok (.return_, 1) := by decide +kernel
theorem dX8_init_0 : decode cX8_init 0 = .ok (.aload_n 0, 1) := by decide +kernel
theorem dX8_init_1 : decode cX8_init 1 = .ok (.invokespecial 3, 3) := by decide +kernel
theorem dX8_init_4 : decode cX8_init 4 = .ok (.aload_n 0, 1) := by decide +kernel
theorem dX8_init_5 : decode cX8_init 5 = .ok (.bipush 64, 2) := by decide +kernel
theorem dX8_init_7 : decode cX8_init 7 = .ok (.newarray .long, 2) := by decide +kernel
theorem dX8_init_9 : decode cX8_init 9 = .ok (.putfield 9, 3) := by decide +kernel
theorem dX8_init_12 : decode cX8_init 12 = .ok (.aload_n 0, 1) := by decide +kernel
theorem dX8_init_13 : decode cX8_init 13 = .ok (.bipush 64, 2) := by decide +kernel
theorem dX8_init_15 : decode cX8_init 15 = .ok (.newarray .long, 2) := by decide +kernel
theorem dX8_init_17 : decode cX8_init 17 = .ok (.putfield 15, 3) := by decide +kernel
theorem dX8_init_20 : decode cX8_init 20 = .ok (.aload_n 0, 1) := by decide +kernel
theorem dX8_init_21 : decode cX8_init 21 = .ok (.bipush 64, 2) := by decide +kernel
theorem dX8_init_23 : decode cX8_init 23 = .ok (.newarray .int, 2) := by decide +kernel
theorem dX8_init_25 : decode cX8_init 25 = .ok (.putfield 18, 3) := by decide +kernel
theorem dX8_init_28 : decode cX8_init 28 = .ok (.aload_n 0, 1) := by decide +kernel
theorem dX8_init_29 : decode cX8_init 29 = .ok (.bipush 64, 2) := by decide +kernel
theorem dX8_init_31 : decode cX8_init 31 = .ok (.newarray .int, 2) := by decide +kernel
theorem dX8_init_33 : decode cX8_init 33 = .ok (.putfield 22, 3) := by decide +kernel
theorem dX8_init_36 : decode cX8_init 36 = .ok (.aload_n 0, 1) := by decide +kernel
theorem dX8_init_37 : decode cX8_init 37 = .ok (.iload_n 1, 1) := by decide +kernel
theorem dX8_init_38 : decode cX8_init 38 = .ok (.ifCond .eq 9, 3) := by decide +kernel
theorem dX8_init_41 : decode cX8_init 41 = .ok (.sipush 16384, 3) := by decide +kernel
theorem dX8_init_44 : decode cX8_init 44 = .ok (.goto 6, 3) := by decide +kernel
theorem dX8_init_47 : decode cX8_init 47 = .ok (.sipush 4096, 3) := by decide +kernel
theorem dX8_init_50 : decode cX8_init 50 = .ok (.newarray .int, 2) := by decide +kernel
theorem dX8_init_52 : decode cX8_init 52 = .ok (.putfield 25, 3) := by decide +kernel
theorem dX8_init_55 : decode cX8_init 55 = .ok (.return_, 1) := by decide +kernel
set_option maxRecDepth 20000 in
theorem ggX9_init_X6_init : GoodIn wsX9_init wsX6_init := goodIn_r _ [15, 16, 2, 3, 17, 18, 19, 27, 28, 29] (by decide +kernel) (by decide +kernel)
set_option maxRecDepth 20000 in
theorem gX9_init_X6_init_n17 : GoodIn wsX9_init (wsX6_init) := ggX9_init_X6_init
theorem dX9_init_0 : decode cX9_init 0 = .ok (.aload_n 0, 1) := by decide +kernel
theorem dX9_init_1 : decode cX9_init 1 = .ok (.invokespecial 3, 3) := by decide +kernel
theorem dX9_init_4 : decode cX9_init 4 = .ok (.aload_n 0, 1) := by decide +kernel
theorem dX9_init_5 : decode cX9_init 5 = .ok (.iconst 4, 1) := by decide +kernel
theorem dX9_init_6 : decode cX9_init 6 = .ok (.anewarray 9, 3) := by decide +kernel
theorem dX9_init_9 : decode cX9_init 9 = .ok (.putfield 11, 3) := by decide +kernel
theorem dX9_init_12 : decode cX9_init 12 = .ok (.aload_n 0, 1) := by decide +kernel
theorem dX9_init_13 : decode cX9_init 13 = .ok (.new 9, 3) := by decide +kernel
theorem dX9_init_16 : decode cX9_init 16 = .ok (.dup, 1) := by decide +kernel
theorem dX9_init_17 : decode cX9_init 17 = .ok (.invokespecial 17, 3) := by decide +kernel
theorem dX9_init_20 : decode cX9_init 20 = .ok (.putfield 18, 3) := by decide +kernel
theorem dX9_init_23 : decode cX9_init 23 = .ok (.aload_n 0, 1) := by decide +kernel
theorem dX9_init_24 : decode cX9_init 24 = .ok (.new 9, 3) := by decide +kernel
theorem dX9_init_27 : decode cX9_init 27 = .ok (.dup, 1) := by decide +kernel
theorem dX9_init_28 : decode cX9_init 28 = .ok (.invokespecial 17, 3) := by decide +kernel
theorem dX9_init_31 : decode cX9_init 31 = .ok (.putfield 22, 3) := by decide +kernel
theorem dX9_init_34 : decode cX9_init 34 = .ok (.aload_n 0, 1) := by decide +kernel
theorem dX9_init_35 : decode cX9_init 35 = .ok (.new 9, 3) := by decide +kernel
theorem dX9_init_38 : decode cX9_init 38 = .ok (.dup, 1) := by decide +kernel
theorem dX9_init_39 : decode cX9_init 39 = .ok (.invokespecial 17, 3) := by decide +kernel
theorem dX9_init_42 : decode cX9_init 42 = .ok (.putfield 25, 3) := by decide +kernel
theorem dX9_init_45 : decode cX9_init 45 = .ok (.aload_n 0, 1) := by decide +kernel
theorem dX9_init_46 : decode cX9_init 46 = .ok (.new 9, 3) := by decide +kernel
theorem dX9_init_49 : decode cX9_init 49 = .ok (.dup, 1) := by decide +kernel
theorem dX9_init_50 : decode cX9_init 50 = .ok (.invokespecial 17, 3) := by decide +kernel
theorem dX9_init_53 : decode cX9_init 53 = .ok (.putfield 28, 3) := by decide +kernel
theorem dX9_init_56 : decode cX9_init 56 = .ok (.aload_n 0, 1) := by decide +kernel
theorem dX9_init_57 : decode cX9_init 57 = .ok (.aload_n 1, 1) := by decide +kernel
theorem dX9_init_58 : decode cX9_init 58 = .ok (.putfield 31, 3) := by decide +kernel
theorem dX9_init_61 : decode cX9_init 61 = .ok (.aload_n 0, 1) := by decide +kernel
theorem dX9_init_62 : decode cX9_init 62 = .ok (.aload_n 2, 1) := by decide +kernel
theorem dX9_init_63 : decode cX9_init 63 = .ok (.putfield 35, 3) := by decide +kernel
theorem dX9_init_66 : decode cX9_init 66 = .ok (.iconst 0, 1) := by decide +kernel
theorem dX9_init_67 : decode cX9_init 67 = .ok (.istore_n 3, 1) := by decide +kernel
theorem dX9_init_68 : decode cX9_init 68 = .ok (.iload_n 3, 1) := by decide +kernel
theorem dX9_init_69 : decode cX9_init 69 = .ok (.aload_n 0, 1) := by decide +kernel
theorem dX9_init_70 : decode cX9_init 70 = .ok (.getfield 11, 3) := by decide +kernel
theorem dX9_init_73 : decode cX9_init 73 = .ok (.arraylength, 1) := by decide +kernel
theorem dX9_init_74 : decode cX9_init 74 = .ok (.if_icmp .ge 22, 3) := by decide +kernel
theorem dX9_init_77 : decode cX9_init 77 = .ok (.aload_n 0, 1) := by decide +kernel
theorem dX9_init_78 : decode cX9_init 78 = .ok (.getfield 11, 3) := by decide +kernel
theorem dX9_init_81 : decode cX9_init 81 = .ok (.iload_n 3, 1) := by decide +kernel
theorem dX9_init_82 : decode cX9_init 82 = .ok (.new 9, 3) := by decide +kernel
theorem dX9_init_85 : decode cX9_init 85 = .ok (.dup, 1) := by decide +kernel
theorem dX9_init_86 : decode cX9_init 86 = .ok (.invokespecial 17, 3) := by decide +kernel
theorem dX9_init_89 : decode cX9_init 89 = .ok (.aastore, 1) := by decide +kernel
theorem dX9_init_90 : decode cX9_init 90 = .ok (.iinc 3 1, 3) := by decide +kernel
theorem dX9_init_93 : decode cX9_init 93 = .ok (.goto (-25), 3) := by decide +kernel
theorem dX9_init_96 : decode cX9_init 96 = .ok (.return_, 1) := by decide +kernel
set_option maxRecDepth 20000 in
theorem ggX10_init_X1_init : GoodIn wsX10_init wsX1_init := goodIn_r _ [15, 16, 2, 3, 11, 17, 18, 19, 20] (by decide +kernel) (by decide +kernel)
set_option maxRecDepth 20000 in
theorem gX10_init_X1_init_n9 : GoodIn wsX10_init (wsX1_init) := ggX10_init_X1_init
theorem dX10_init_0 : decode cX10_init 0 = .ok (.aload_n 0, 1) := by decide +kernel
theorem dX10_init_1 : decode cX10_init 1 = .ok (.invokespecial 1, 3) := by decide +kernel
theorem dX10_init_4 : decode cX10_init 4 = .ok (.aload_n 0, 1) := by decide +kernel
theorem dX10_init_5 : decode cX10_init 5 = .ok (.new 7, 3) := by decide +kernel
theorem dX10_init_8 : decode cX10_init 8 = .ok (.dup, 1) := by decide +kernel
theorem dX10_init_9 : decode cX10_init 9 = .ok (.invokespecial 9, 3) := by decide +kernel
theorem dX10_init_12 : decode cX10_init 12 = .ok (.putfield 10, 3) := by decide +kernel
theorem dX10_init_15 : decode cX10_init 15 = .ok (.aload_n 0, 1) := by decide +kernel
theorem dX10_init_16 : decode cX10_init 16 = .ok (.new 7, 3) := by decide +kernel
theorem dX10_init_19 : decode cX10_init 19 = .ok (.dup, 1) := by decide +kernel
theorem dX10_init_20 : decode cX10_init 20 = .ok (.invokespecial 9, 3) := by decide +kernel
theorem dX10_init_23 : decode cX10_init 23 = .ok (.putfield 16, 3) := by decide +kernel
theorem dX10_init_26 : decode cX10_init 26 = .ok (.aload_n 0, 1) := by decide +kernel
theorem dX10_init_27 : decode cX10_init 27 = .ok (.new 7, 3) := by decide +kernel
theorem dX10_init_30 : decode cX10_init 30 = .ok (.dup, 1) := by decide +kernel
theorem dX10_init_31 : decode cX10_init 31 = .ok (.invokespecial 9, 3) := by decide +kernel
theorem dX10_init_34 : decode cX10_init 34 = .ok (.putfield 19, 3) := by decide +kernel
theorem dX10_init_37 : decode cX10_init 37 = .ok (.aload_n 0, 1) := by decide +kernel
theorem dX10_init_38 : decode cX10_init 38 = .ok (.new 7, 3) := by decide +kernel
theorem dX10_init_41 : decode cX10_init 41 = .ok (.dup, 1) := by decide +kernel
theorem dX10_init_42 : decode cX10_init 42 = .ok (.invokespecial 9, 3) := by decide +kernel
theorem dX10_init_45 : decode cX10_init 45 = .ok (.putfield 22, 3) := by decide +kernel
theorem dX10_init_48 : decode cX10_init 48 = .ok (.aload_n 0, 1) := by decide +kernel
theorem dX10_init_49 : decode cX10_init 49 = .ok (.bipush 8, 2) := by decide +kernel
theorem dX10_init_51 : decode cX10_init 51 = .ok (.newarray .int, 2) := by decide +kernel
theorem dX10_init_53 : decode cX10_init 53 = .ok (.putfield 25, 3) := by decide +kernel
theorem dX10_init_56 : decode cX10_init 56 = .ok (.aload_n 0, 1) := by decide +kernel
theorem dX10_init_57 : decode cX10_init 57 = .ok (.bipush 8, 2) := by decide +kernel
theorem dX10_init_59 : decode cX10_init 59 = .ok (.newarray .int, 2) := by decide +kernel
theorem dX10_init_61 : decode cX10_init 61 = .ok (.putfield 29, 3) := by decide +kernel
theorem dX10_init_64 : decode cX10_init 64 = .ok (.return_, 1) := by decide +kernel
set_option maxRecDepth 20000 in
theorem ggX11_init_X10_init : GoodIn wsX11_init wsX10_init := goodIn_r _ [50, 51, 2, 3, 52, 53, 54, 55, 56, 57, 58, 59, 60, 61, 62, 63, 64, 65, 291, 292, 293, 214, 215, 216, 217, 218, 219] (by decide +kernel) (by decide +kernel)
set_option maxRecDepth 20000 in
theorem gX11_init_X10_init_n19 : GoodIn wsX11_init (wsX10_init) := ggX11_init_X10_init
set_option maxRecDepth 20000 in
theorem ggX11_init_X8_init : GoodIn wsX11_init wsX8_init := goodIn_r _ [68, 69, 2, 3, 70, 71, 72, 59, 73, 74, 75, 220, 221, 222, 223, 224, 225] (by decide +kernel) (by decide +kernel)
set_option maxRecDepth 20000 in
theorem gX11_init_X8_init : GoodIn wsX11_init (wsX8_init) := ggX11_init_X8_init
set_option maxRecDepth 20000 in
theorem ggX11_init_X7_init : GoodIn wsX11_init wsX7_init := goodIn_r _ [78, 79, 2, 3, 80, 81, 39, 40, 82, 83, 84, 85, 86, 87, 88, 70, 89, 90, 226, 227, 228, 229, 230, 231, 232, 233, 234, 235, 281, 282, 283] (by decide +kernel) (by decide +kernel)
set_option maxRecDepth 20000 in
theorem gX11_init_X7_init : GoodIn wsX11_init (wsX7_init) := ggX11_init_X7_init
set_option maxRecDepth 20000 in
theorem ggX11_init_X2_init : GoodIn wsX11_init wsX2_init := goodIn_r _ [93, 94, 2, 3, 95, 39, 40, 96, 97, 98, 99, 100, 101, 59, 102, 103, 104, 86, 87, 88, 70, 89, 90, 281, 282, 283, 236, 237, 238, 239, 240, 241, 242, 243, 244, 245, 246, 247, 248] (by decide +kernel) (by decide +kernel)
set_option maxRecDepth 20000 in
theorem gX11_init_X2_init : GoodIn wsX11_init (wsX2_init) := ggX11_init_X2_init
set_option maxRecDepth 20000 in
theorem ggX11_init_X0_init : GoodIn wsX11_init wsX0_init := goodIn_r _ [107, 108, 2, 3, 109, 39, 40, 110, 111, 112, 70, 113, 114, 115, 116, 117, 53, 54, 118, 119, 120, 121, 122, 123, 124, 125, 126, 127, 128, 129, 86, 87, 88, 89, 90, 62, 63, 64, 59, 65, 130, 131, 132, 133, 134, 135, 136, 137, 138, 139, 140, 141, 142, 143, 144, 145, 146, 147, 148, 149, 150, 151, 152, 153, 154, 155, 156, 281, 282, 283, 249, 250, 251, 252, 253, 254, 255, 256, 257, 258, 259, 260, 261, 262, 263, 264, 291, 292, 293, 294, 295, 296, 297, 298, 299, 300, 301, 302, 303, 304, 305, 306, 307, 308, 309, 310, 311] (by decide +kernel) (by decide +kernel)
set_option maxRecDepth 20000 in
theorem gX11_init_X0_init : GoodIn wsX11_init (wsX0_init) := ggX11_init_X0_init
set_option maxRecDepth 20000 in
theorem ggX11_init_X4_init : GoodIn wsX11_init wsX4_init := goodIn_r _ [159, 160, 2, 3, 161, 162, 163, 164, 165, 39, 40, 166, 167, 168, 169, 126, 127, 170, 171, 86, 87, 88, 70, 89, 90, 172, 131, 132, 133, 134, 53, 54, 135, 136, 137, 138, 139, 140, 141, 142, 143, 144, 145, 146, 147, 148, 149, 150, 151, 59, 152, 153, 154, 155, 156, 62, 63, 64, 65, 265, 266, 267, 268, 269, 270, 271, 272, 273, 281, 282, 283, 294, 295, 296, 297, 298, 299, 300, 301, 302, 303, 304, 305, 306, 307, 308, 309, 310, 311, 291, 292, 293] (by decide +kernel) (by decide +kernel)
set_option maxRecDepth 20000 in
theorem gX11_init_X4_init : GoodIn wsX11_init (wsX4_init) := ggX11_init_X4_init
set_option maxRecDepth 20000 in
theorem ggX11_init_X9_init : GoodIn wsX11_init wsX9_init := goodIn_r _ [175, 176, 2, 3, 177, 178, 39, 40, 179, 180, 181, 182, 183, 184, 86, 87, 88, 70, 89, 90, 274, 275, 276, 277, 278, 279, 280, 281, 282, 283] (by decide +kernel) (by decide +kernel)
set_option maxRecDepth 20000 in
theorem gX11_init_X9_init : GoodIn wsX11_init (wsX9_init) := ggX11_init_X9_init
set_option maxRecDepth 20000 in
theorem ggX11_init_X6_init : GoodIn wsX11_init wsX6_init := goodIn_r _ [87, 88, 2, 3, 70, 89, 90, 281, 282, 283] (by decide +kernel) (by decide +kernel)
set_option maxRecDepth 20000 in
theorem gX11_init_X6_init_n87 : GoodIn wsX11_init (wsX6_init) := ggX11_init_X6_init
set_option maxRecDepth 20000 in
theorem ggX11_init_X3_init : GoodIn wsX11_init wsX3_init := goodIn_r _ [187, 188, 2, 3, 70, 189, 59, 190, 191, 192, 126, 127, 193, 194, 131, 132, 133, 134, 53, 54, 135, 136, 137, 138, 139, 140, 141, 142, 143, 144, 145, 146, 147, 148, 149, 150, 151, 152, 153, 154, 155, 156, 62, 63, 64, 65, 284, 285, 286, 287, 288, 289, 290, 294, 295, 296, 297, 298, 299, 300, 301, 302, 303, 304, 305, 306, 307, 308, 309, 310, 311, 291, 292, 293] (by decide +kernel) (by decide +kernel)
set_option maxRecDepth 20000 in
theorem gX11_init_X3_init : GoodIn wsX11_init (wsX3_init) := ggX11_init_X3_init
theorem dX11_init_0 : decode cX11_init 0 = .ok (.aload_n 0, 1) := by decide +kernel
theorem dX11_init_1 : decode cX11_init 1 = .ok (.invokespecial 3, 3) := by decide +kernel
theorem dX11_init_4 : decode cX11_init 4 = .ok (.aload_n 0, 1) := by decide +kernel
theorem dX11_init_5 : decode cX11_init 5 = .ok (.sipush 200, 3) := by decide +kernel
theorem dX11_init_8 : decode cX11_init 8 = .ok (.newarray .byte, 2) := by decide +kernel
theorem dX11_init_10 : decode cX11_init 10 = .ok (.putfield 9, 3) := by decide +kernel
theorem dX11_init_13 : decode cX11_init 13 = .ok (.aload_n 0, 1) := by decide +kernel
theorem dX11_init_14 : decode cX11_init 14 = .ok (.iconst (-1), 1) := by decide +kernel
theorem dX11_init_15 : decode cX11_init 15 = .ok (.putfield 13, 3) := by decide +kernel
theorem dX11_init_18 : decode cX11_init 18 = .ok (.aload_n 0, 1) := by decide +kernel
theorem dX11_init_19 : decode cX11_init 19 = .ok (.new 17, 3) := by decide +kernel
theorem dX11_init_22 : decode cX11_init 22 = .ok (.dup, 1) := by decide +kernel
theorem dX11_init_23 : decode cX11_init 23 = .ok (.invokespecial 19, 3) := by decide +kernel
theorem dX11_init_26 : decode cX11_init 26 = .ok (.putfield 20, 3) := by decide +kernel
theorem dX11_init_29 : decode cX11_init 29 = .ok (.aload_n 0, 1) := by decide +kernel
theorem dX11_init_30 : decode cX11_init 30 = .ok (.new 24, 3) := by decide +kernel
theorem dX11_init_33 : decode cX11_init 33 = .ok (.dup, 1) := by decide +kernel
theorem dX11_init_34 : decode cX11_init 34 = .ok (.iconst 0, 1) := by decide +kernel
theorem dX11_init_35 : decode cX11_init 35 = .ok (.invokespecial 26, 3) := by decide +kernel
theorem dX11_init_38 : decode cX11_init 38 = .ok (.putfield 29, 3) := by decide +kernel
theorem dX11_init_41 : decode cX11_init 41 = .ok (.aload_n 0, 1) := by decide +kernel
theorem dX11_init_42 : decode cX11_init 42 = .ok (.new 24, 3) := by decide +kernel
theorem dX11_init_45 : decode cX11_init 45 = .ok (.dup, 1) := by decide +kernel
theorem dX11_init_46 : decode cX11_init 46 = .ok (.iconst 1, 1) := by decide +kernel
theorem dX11_init_47 : decode cX11_init 47 = .ok (.invokespecial 26, 3) := by decide +kernel
theorem dX11_init_50 : decode cX11_init 50 = .ok (.putfield 33, 3) := by decide +kernel
theorem dX11_init_53 : decode cX11_init 53 = .ok (.aload_n 0, 1) := by decide +kernel
theorem dX11_init_54 : decode cX11_init 54 = .ok (.new 36, 3) := by decide +kernel
theorem dX11_init_57 : decode cX11_init 57 = .ok (.dup, 1) := by decide +kernel
theorem dX11_init_58 : decode cX11_init 58 = .ok (.aload_n 0, 1) := by decide +kernel
theorem dX11_init_59 : decode cX11_init 59 = .ok (.getfield 9, 3) := by decide +kernel
theorem dX11_init_62 : decode cX11_init 62 = .ok (.aload_n 0, 1) := by decide +kernel
theorem dX11_init_63 : decode cX11_init 63 = .ok (.getfield 29, 3) := by decide +kernel
theorem dX11_init_66 : decode cX11_init 66 = .ok (.invokespecial 38, 3) := by decide +kernel
theorem dX11_init_69 : decode cX11_init 69 = .ok (.putfield 41, 3) := by decide +kernel
theorem dX11_init_72 : decode cX11_init 72 = .ok (.aload_n 0, 1) := by decide +kernel
theorem dX11_init_73 : decode cX11_init 73 = .ok (.new 45, 3) := by decide +kernel
theorem dX11_init_76 : decode cX11_init 76 = .ok (.dup, 1) := by decide +kernel
theorem dX11_init_77 : decode cX11_init 77 = .ok (.aload_n 0, 1) := by decide +kernel
theorem dX11_init_78 : decode cX11_init 78 = .ok (.getfield 29, 3) := by decide +kernel
theorem dX11_init_81 : decode cX11_init 81 = .ok (.aload_n 0, 1) := by decide +kernel
theorem dX11_init_82 : decode cX11_init 82 = .ok (.getfield 33, 3) := by decide +kernel
theorem dX11_init_85 : decode cX11_init 85 = .ok (.invokespecial 47, 3) := by decide +kernel
theorem dX11_init_88 : decode cX11_init 88 = .ok (.putfield 50, 3) := by decide +kernel
theorem dX11_init_91 : decode cX11_init 91 = .ok (.aload_n 0, 1) := by decide +kernel
theorem dX11_init_92 : decode cX11_init 92 = .ok (.new 54, 3) := by decide +kernel
theorem dX11_init_95 : decode cX11_init 95 = .ok (.dup, 1) := by decide +kernel
theorem dX11_init_96 : decode cX11_init 96 = .ok (.aload_n 0, 1) := by decide +kernel
theorem dX11_init_97 : decode cX11_init 97 = .ok (.getfield 20, 3) := by decide +kernel
theorem dX11_init_100 : decode cX11_init 100 = .ok (.aload_n 0, 1) := by decide +kernel
theorem dX11_init_101 : decode cX11_init 101 = .ok (.getfield 29, 3) := by decide +kernel
theorem dX11_init_104 : decode cX11_init 104 = .ok (.invokespecial 56, 3) := by decide +kernel
theorem dX11_init_107 : decode cX11_init 107 = .ok (.putfield 59, 3) := by decide +kernel
theorem dX11_init_110 : decode cX11_init 110 = .ok (.aload_n 0, 1) := by decide +kernel
theorem dX11_init_111 : decode cX11_init 111 = .ok (.iconst 4, 1) := by decide +kernel
theorem dX11_init_112 : decode cX11_init 112 = .ok (.anewarray 63, 3) := by decide +kernel
theorem dX11_init_115 : decode cX11_init 115 = .ok (.putfield 65, 3) := by decide +kernel
theorem dX11_init_118 : decode cX11_init 118 = .ok (.aload_n 0, 1) := by decide +kernel
theorem dX11_init_119 : decode cX11_init 119 = .ok (.new 69, 3) := by decide +kernel
theorem dX11_init_122 : decode cX11_init 122 = .ok (.dup, 1) := by decide +kernel
theorem dX11_init_123 : decode cX11_init 123 = .ok (.aload_n 0, 1) := by decide +kernel
theorem dX11_init_124 : decode cX11_init 124 = .ok (.getfield 20, 3) := by decide +kernel
theorem dX11_init_127 : decode cX11_init 127 = .ok (.aload_n 0, 1) := by decide +kernel
theorem dX11_init_128 : decode cX11_init 128 = .ok (.getfield 29, 3) := by decide +kernel
theorem dX11_init_131 : decode cX11_init 131 = .ok (.aload_n 0, 1) := by decide +kernel
theorem dX11_init_132 : decode cX11_init 132 = .ok (.getfield 33, 3) := by decide +kernel
theorem dX11_init_135 : decode cX11_init 135 = .ok (.invokespecial 71, 3) := by decide +kernel
theorem dX11_init_138 : decode cX11_init 138 = .ok (.putfield 74, 3) := by decide +kernel
theorem dX11_init_141 : decode cX11_init 141 = .ok (.aload_n 0, 1) := by decide +kernel
theorem dX11_init_142 : decode cX11_init 142 = .ok (.new 78, 3) := by decide +kernel
theorem dX11_init_145 : decode cX11_init 145 = .ok (.dup, 1) := by decide +kernel
theorem dX11_init_146 : decode cX11_init 146 = .ok (.aload_n 0, 1) := by decide +kernel
theorem dX11_init_147 : decode cX11_init 147 = .ok (.getfield 29, 3) := by decide +kernel
theorem dX11_init_150 : decode cX11_init 150 = .ok (.aload_n 0, 1) := by decide +kernel
theorem dX11_init_151 : decode cX11_init 151 = .ok (.getfield 33, 3) := by decide +kernel
theorem dX11_init_154 : decode cX11_init 154 = .ok (.invokespecial 80, 3) := by decide +kernel
theorem dX11_init_157 : decode cX11_init 157 = .ok (.putfield 81, 3) := by decide +kernel
theorem dX11_init_160 : decode cX11_init 160 = .ok (.aload_n 0, 1) := by decide +kernel
theorem dX11_init_161 : decode cX11_init 161 = .ok (.new 85, 3) := by decide +kernel
theorem dX11_init_164 : decode cX11_init 164 = .ok (.dup, 1) := by decide +kernel
theorem dX11_init_165 : decode cX11_init 165 = .ok (.invokespecial 87, 3) := by decide +kernel
theorem dX11_init_168 : decode cX11_init 168 = .ok (.putfield 88, 3) := by decide +kernel
theorem dX11_init_171 : decode cX11_init 171 = .ok (.aload_n 0, 1) := by decide +kernel
theorem dX11_init_172 : decode cX11_init 172 = .ok (.new 85, 3) := by decide +kernel
theorem dX11_init_175 : decode cX11_init 175 = .ok (.dup, 1) := by decide +kernel
theorem dX11_init_176 : decode cX11_init 176 = .ok (.invokespecial 87, 3) := by decide +kernel
theorem dX11_init_179 : decode cX11_init 179 = .ok (.putfield 92, 3) := by decide +kernel
theorem dX11_init_182 : decode cX11_init 182 = .ok (.aload_n 0, 1) := by decide +kernel
theorem dX11_init_183 : decode cX11_init 183 = .ok (.iconst 3, 1) := by decide +kernel
theorem dX11_init_184 : decode cX11_init 184 = .ok (.anewarray 85, 3) := by decide +kernel
theorem dX11_init_187 : decode cX11_init 187 = .ok (.putfield 95, 3) := by decide +kernel
theorem dX11_init_190 : decode cX11_init 190 = .ok (.aload_n 0, 1) := by decide +kernel
theorem dX11_init_191 : decode cX11_init 191 = .ok (.iconst 3, 1) := by decide +kernel
theorem dX11_init_192 : decode cX11_init 192 = .ok (.anewarray 85, 3) := by decide +kernel
theorem dX11_init_195 : decode cX11_init 195 = .ok (.putfield 99, 3) := by decide +kernel
theorem dX11_init_198 : decode cX11_init 198 = .ok (.aload_n 0, 1) := by decide +kernel
theorem dX11_init_199 : decode cX11_init 199 = .ok (.iconst (-1), 1) := by decide +kernel
theorem dX11_init_200 : decode cX11_init 200 = .ok (.putfield 102, 3) := by decide +kernel
theorem dX11_init_203 : decode cX11_init 203 = .ok (.iconst 0, 1) := by decide +kernel
theorem dX11_init_204 : decode cX11_init 204 = .ok (.istore_n 1, 1) := by decide +kernel
theorem dX11_init_205 : decode cX11_init 205 = .ok (.iload_n 1, 1) := by decide +kernel
theorem dX11_init_206 : decode cX11_init 206 = .ok (.iconst 4, 1) := by decide +kernel
theorem dX11_init_207 : decode cX11_init 207 = .ok (.if_icmp .ge 31, 3) := by decide +kernel
theorem dX11_init_210 : decode cX11_init 210 = .ok (.aload_n 0, 1) := by decide +kernel
theorem dX11_init_211 : decode cX11_init 211 = .ok (.getfield 65, 3) := by decide +kernel
theorem dX11_init_214 : decode cX11_init 214 = .ok (.iload_n 1, 1) := by decide +kernel
theorem dX11_init_215 : decode cX11_init 215 = .ok (.new 63, 3) := by decide +kernel
theorem dX11_init_218 : decode cX11_init 218 = .ok (.dup, 1) := by decide +kernel
theorem dX11_init_219 : decode cX11_init 219 = .ok (.aload_n 0, 1) := by decide +kernel
theorem dX11_init_220 : decode cX11_init 220 = .ok (.getfield 20, 3) := by decide +kernel
theorem dX11_init_223 : decode cX11_init 223 = .ok (.getstatic 105, 3) := by decide +kernel
theorem dX11_init_226 : decode cX11_init 226 = .ok (.iload_n 1, 1) := by decide +kernel
theorem dX11_init_227 : decode cX11_init 227 = .ok (.iaload, 1) := by decide +kernel
theorem dX11_init_228 : decode cX11_init 228 = .ok (.invokespecial 109, 3) := by decide +kernel
theorem dX11_init_231 : decode cX11_init 231 = .ok (.aastore, 1) := by decide +kernel
theorem dX11_init_232 : decode cX11_init 232 = .ok (.iinc 1 1, 3) := by decide +kernel
theorem dX11_init_235 : decode cX11_init 235 = .ok (.goto (-30), 3) := by decide +kernel
theorem dX11_init_238 : decode cX11_init 238 = .ok (.iconst 0, 1) := by decide +kernel
theorem dX11_init_239 : decode cX11_init 239 = .ok (.istore_n 1, 1) := by decide +kernel
theorem dX11_init_240 : decode cX11_init 240 = .ok (.iload_n 1, 1) := by decide +kernel
theorem dX11_init_241 : decode cX11_init 241 = .ok (.iconst 3, 1) := by decide +kernel
theorem dX11_init_242 : decode cX11_init 242 = .ok (.if_icmp .ge 35, 3) := by decide +kernel
theorem dX11_init_245 : decode cX11_init 245 = .ok (.aload_n 0, 1) := by decide +kernel
theorem dX11_init_246 : decode cX11_init 246 = .ok (.getfield 95, 3) := by decide +kernel
theorem dX11_init_249 : decode cX11_init 249 = .ok (.iload_n 1, 1) := by decide +kernel
theorem dX11_init_250 : decode cX11_init 250 = .ok (.new 85, 3) := by decide +kernel
theorem dX11_init_253 : decode cX11_init 253 = .ok (.dup, 1) := by decide +kernel
theorem dX11_init_254 : decode cX11_init 254 = .ok (.invokespecial 87, 3) := by decide +kernel
theorem dX11_init_257 : decode cX11_init 257 = .ok (.aastore, 1) := by decide +kernel
theorem dX11_init_258 : decode cX11_init 258 = .ok (.aload_n 0, 1) := by decide +kernel
theorem dX11_init_259 : decode cX11_init 259 = .ok (.getfield 99, 3) := by decide +kernel
theorem dX11_init_262 : decode cX11_init 262 = .ok (.iload_n 1, 1) := by decide +kernel
theorem dX11_init_263 : decode cX11_init 263 = .ok (.new 85, 3) := by decide +kernel
theorem dX11_init_266 : decode cX11_init 266 = .ok (.dup, 1) := by decide +kernel
theorem dX11_init_267 : decode cX11_init 267 = .ok (.invokespecial 87, 3) := by decide +kernel
theorem dX11_init_270 : decode cX11_init 270 = .ok (.aastore, 1) := by decide +kernel
theorem dX11_init_271 : decode cX11_init 271 = .ok (.iinc 1 1, 3) := by decide +kernel
theorem dX11_init_274 : decode cX11_init 274 = .ok (.goto (-34), 3) := by decide +kernel
theorem dX11_init_277 : decode cX11_init 277 = .ok (.return_, 1) := by decide +kernel
theorem dX12_init_0 : decode cX12_init 0 = .ok (.aload_n 0, 1) := by decide +kernel
theorem dX12_init_1 : decode cX12_init 1 = .ok (.invokespecial 1, 3) := by decide +kernel
theorem dX12_init_4 : decode cX12_init 4 = .ok (.aload_n 0, 1) := by decide +kernel
theorem dX12_init_5 : decode cX12_init 5 = .ok (.iload_n 1, 1) := by decide +kernel
theorem dX12_init_6 : decode cX12_init 6 = .ok (.newarray .int, 2) := by decide +kernel
theorem dX12_init_8 : decode cX12_init 8 = .ok (.putfield 7, 3) := by decide +kernel
theorem dX12_init_11 : decode cX12_init 11 = .ok (.return_, 1) := by decide +kernel
theorem dX13_init_0 : decode cX13_init 0 = .ok (.aload_n 0, 1) := by decide +kernel
theorem dX13_init_1 : decode cX13_init 1 = .ok (.invokespecial 3, 3) := by decide +kernel
theorem dX13_init_4 : decode cX13_init 4 = .ok (.aload_n 0, 1) := by decide +kernel
theorem dX13_init_5 : decode cX13_init 5 = .ok (.iload_n 1, 1) := by decide +kernel
theorem dX13_init_6 : decode cX13_init 6 = .ok (.newarray .long, 2) := by decide +kernel
theorem dX13_init_8 : decode cX13_init 8 = .ok (.putfield 9, 3) := by decide +kernel
theorem dX13_init_11 : decode cX13_init 11 = .ok (.aload_n 0, 1) := by decide +kernel
theorem dX13_init_12 : decode cX13_init 12 = .ok (.iload_n 1, 1) := by decide +kernel
theorem dX13_init_13 : decode cX13_init 13 = .ok (.newarray .long, 2) := by decide +kernel
theorem dX13_init_15 : decode cX13_init 15 = .ok (.putfield 15, 3) := by decide +kernel
theorem dX13_init_18 : decode cX13_init 18 = .ok (.aload_n 0, 1) := by decide +kernel
theorem dX13_init_19 : decode cX13_init 19 = .ok (.iconst 2, 1) := by decide +kernel
theorem dX13_init_20 : decode cX13_init 20 = .ok (.iload_n 1, 1) := by decide +kernel
theorem dX13_init_21 : decode cX13_init 21 = .ok (.imul, 1) := by decide +kernel
theorem dX13_init_22 : decode cX13_init 22 = .ok (.newarray .int, 2) := by decide +kernel
theorem dX13_init_24 : decode cX13_init 24 = .ok (.putfield 18, 3) := by decide +kernel
theorem dX13_init_27 : decode cX13_init 27 = .ok (.aload_n 0, 1) := by decide +kernel
theorem dX13_init_28 : decode cX13_init 28 = .ok (.iload_n 1, 1) := by decide +kernel
theorem dX13_init_29 : decode cX13_init 29 = .ok (.newarray .int, 2) := by decide +kernel
theorem dX13_init_31 : decode cX13_init 31 = .ok (.putfield 22, 3) := by decide +kernel
theorem dX13_init_34 : decode cX13_init 34 = .ok (.return_, 1) := by decide +kernel
set_option maxRecDepth 20000 in
theorem ggX14_init_X12_init : GoodIn wsX14_init wsX12_init := goodIn_r _ [12, 13, 3, 4, 6, 14, 20, 21, 22] (by decide +kernel) (by decide +kernel)
set_option maxRecDepth 20000 in
theorem gX14_init_X12_init_n26 : GoodIn wsX14_init (wsX12_init) := ggX14_init_X12_init
theorem dX14_init_0 : decode cX14_init 0 = .ok (.aload_n 0, 1) := by decide +kernel
theorem dX14_init_1 : decode cX14_init 1 = .ok (.aload_n 1, 1) := by decide +kernel
theorem dX14_init_2 : decode cX14_init 2 = .ok (.putfield 3, 3) := by decide +kernel
theorem dX14_init_5 : decode cX14_init 5 = .ok (.aload_n 0, 1) := by decide +kernel
theorem dX14_init_6 : decode cX14_init 6 = .ok (.invokespecial 9, 3) := by decide +kernel
theorem dX14_init_9 : decode cX14_init 9 = .ok (.aload_n 0, 1) := by decide +kernel
theorem dX14_init_10 : decode cX14_init 10 = .ok (.bipush 30, 2) := by decide +kernel
theorem dX14_init_12 : decode cX14_init 12 = .ok (.bipush 30, 2) := by decide +kernel
theorem dX14_init_14 : decode cX14_init 14 = .ok (.multianewarray 15 2, 4) := by decide +kernel
theorem dX14_init_18 : decode cX14_init 18 = .ok (.putfield 17, 3) := by decide +kernel
theorem dX14_init_21 : decode cX14_init 21 = .ok (.aload_n 0, 1) := by decide +kernel
theorem dX14_init_22 : decode cX14_init 22 = .ok (.bipush 30, 2) := by decide +kernel
theorem dX14_init_24 : decode cX14_init 24 = .ok (.newarray .int, 2) := by decide +kernel
theorem dX14_init_26 : decode cX14_init 26 = .ok (.putfield 20, 3) := by decide +kernel
theorem dX14_init_29 : decode cX14_init 29 = .ok (.iconst 0, 1) := by decide +kernel
theorem dX14_init_30 : decode cX14_init 30 = .ok (.istore_n 2, 1) := by decide +kernel
theorem dX14_init_31 : decode cX14_init 31 = .ok (.iload_n 2, 1) := by decide +kernel
theorem dX14_init_32 : decode cX14_init 32 = .ok (.bipush 30, 2) := by decide +kernel
theorem dX14_init_34 : decode cX14_init 34 = .ok (.if_icmp .ge 41, 3) := by decide +kernel
theorem dX14_init_37 : decode cX14_init 37 = .ok (.iconst 0, 1) := by decide +kernel
theorem dX14_init_38 : decode cX14_init 38 = .ok (.istore_n 3, 1) := by decide +kernel
theorem dX14_init_39 : decode cX14_init 39 = .ok (.iload_n 3, 1) := by decide +kernel
theorem dX14_init_40 : decode cX14_init 40 = .ok (.bipush 30, 2) := by decide +kernel
theorem dX14_init_42 : decode cX14_init 42 = .ok (.if_icmp .ge 27, 3) := by decide +kernel
theorem dX14_init_45 : decode cX14_init 45 = .ok (.aload_n 0, 1) := by decide +kernel
theorem dX14_init_46 : decode cX14_init 46 = .ok (.getfield 17, 3) := by decide +kernel
theorem dX14_init_49 : decode cX14_init 49 = .ok (.iload_n 2, 1) := by decide +kernel
theorem dX14_init_50 : decode cX14_init 50 = .ok (.aaload, 1) := by decide +kernel
theorem dX14_init_51 : decode cX14_init 51 = .ok (.iload_n 3, 1) := by decide +kernel
theorem dX14_init_52 : decode cX14_init 52 = .ok (.new 24, 3) := by decide +kernel
theorem dX14_init_55 : decode cX14_init 55 = .ok (.dup, 1) := by decide +kernel
theorem dX14_init_56 : decode cX14_init 56 = .ok (.sipush 270, 3) := by decide +kernel
theorem dX14_init_59 : decode cX14_init 59 = .ok (.invokespecial 26, 3) := by decide +kernel
theorem dX14_init_62 : decode cX14_init 62 = .ok (.aastore, 1) := by decide +kernel
theorem dX14_init_63 : decode cX14_init 63 = .ok (.iinc 3 1, 3) := by decide +kernel
theorem dX14_init_66 : decode cX14_init 66 = .ok (.goto (-27), 3) := by decide +kernel
theorem dX14_init_69 : decode cX14_init 69 = .ok (.iinc 2 1, 3) := by decide +kernel
theorem dX14_init_72 : decode cX14_init 72 = .ok (.goto (-41), 3) := by decide +kernel
theorem dX14_init_75 : decode cX14_init 75 = .ok (.return_, 1) := by decide +kernel
set_option maxRecDepth 20000 in
theorem ggX15_init_X12_init : GoodIn wsX15_init wsX12_init := goodIn_r _ [90, 91, 2, 3, 24, 92, 107, 108, 109] (by decide +kernel) (by decide +kernel)
set_option maxRecDepth 20000 in
theorem gX15_init_X12_init_n95 : GoodIn wsX15_init (wsX12_init) := ggX15_init_X12_init
set_option maxRecDepth 20000 in
theorem ggX15_init_X14_init : GoodIn wsX15_init wsX14_init := goodIn_r _ [94, 95, 96, 2, 3, 97, 24, 98, 99, 5, 6, 89, 90, 91, 92, 199, 200, 201, 202, 203, 107, 108, 109] (by decide +kernel) (by decide +kernel)
set_option maxRecDepth 20000 in
theorem gX15_init_X14_init_n107 : GoodIn wsX15_init (wsX14_init) := ggX15_init_X14_init
set_option maxRecDepth 20000 in
theorem ggX15_init_X13_init : GoodIn wsX15_init wsX13_init := goodIn_r _ [101, 102, 2, 3, 51, 103, 104, 24, 105, 106, 204, 205, 206, 207, 208] (by decide +kernel) (by decide +kernel)
set_option maxRecDepth 20000 in
theorem gX15_init_X13_init_n129 : GoodIn wsX15_init (wsX13_init) := ggX15_init_X13_init
theorem dX15_init_0 : decode cX15_init 0 = .ok (.aload_n 0, 1) := by decide +kernel
theorem dX15_init_1 : decode cX15_init 1 = .ok (.invokespecial 89, 3) := by decide +kernel
theorem dX15_init_4 : decode cX15_init 4 = .ok (.aload_n 0, 1) := by decide +kernel
theorem dX15_init_5 : decode cX15_init 5 = .ok (.new 2, 3) := by decide +kernel
theorem dX15_init_8 : decode cX15_init 8 = .ok (.dup, 1) := by decide +kernel
theorem dX15_init_9 : decode cX15_init 9 = .ok (.sipush 270, 3) := by decide +kernel
theorem dX15_init_12 : decode cX15_init 12 = .ok (.invokespecial 95, 3) := by decide +kernel
theorem dX15_init_15 : decode cX15_init 15 = .ok (.putfield 11, 3) := by decide +kernel
theorem dX15_init_18 : decode cX15_init 18 = .ok (.aload_n 0, 1) := by decide +kernel
theorem dX15_init_19 : decode cX15_init 19 = .ok (.new 2, 3) := by decide +kernel
theorem dX15_init_22 : decode cX15_init 22 = .ok (.dup, 1) := by decide +kernel
theorem dX15_init_23 : decode cX15_init 23 = .ok (.sipush 270, 3) := by decide +kernel
theorem dX15_init_26 : decode cX15_init 26 = .ok (.invokespecial 95, 3) := by decide +kernel
theorem dX15_init_29 : decode cX15_init 29 = .ok (.putfield 17, 3) := by decide +kernel
theorem dX15_init_32 : decode cX15_init 32 = .ok (.aload_n 0, 1) := by decide +kernel
theorem dX15_init_33 : decode cX15_init 33 = .ok (.new 2, 3) := by decide +kernel
theorem dX15_init_36 : decode cX15_init 36 = .ok (.dup, 1) := by decide +kernel
theorem dX15_init_37 : decode cX15_init 37 = .ok (.sipush 270, 3) := by decide +kernel
theorem dX15_init_40 : decode cX15_init 40 = .ok (.invokespecial 95, 3) := by decide +kernel
theorem dX15_init_43 : decode cX15_init 43 = .ok (.putfield 20, 3) := by decide +kernel
theorem dX15_init_46 : decode cX15_init 46 = .ok (.aload_n 0, 1) := by decide +kernel
theorem dX15_init_47 : decode cX15_init 47 = .ok (.new 2, 3) := by decide +kernel
theorem dX15_init_50 : decode cX15_init 50 = .ok (.dup, 1) := by decide +kernel
theorem dX15_init_51 : decode cX15_init 51 = .ok (.sipush 270, 3) := by decide +kernel
theorem dX15_init_54 : decode cX15_init 54 = .ok (.invokespecial 95, 3) := by decide +kernel
theorem dX15_init_57 : decode cX15_init 57 = .ok (.putfield 51, 3) := by decide +kernel
theorem dX15_init_60 : decode cX15_init 60 = .ok (.aload_n 0, 1) := by decide +kernel
theorem dX15_init_61 : decode cX15_init 61 = .ok (.new 2, 3) := by decide +kernel
theorem dX15_init_64 : decode cX15_init 64 = .ok (.dup, 1) := by decide +kernel
theorem dX15_init_65 : decode cX15_init 65 = .ok (.sipush 270, 3) := by decide +kernel
theorem dX15_init_68 : decode cX15_init 68 = .ok (.invokespecial 95, 3) := by decide +kernel
theorem dX15_init_71 : decode cX15_init 71 = .ok (.putfield 62, 3) := by decide +kernel
theorem dX15_init_74 : decode cX15_init 74 = .ok (.aload_n 0, 1) := by decide +kernel
theorem dX15_init_75 : decode cX15_init 75 = .ok (.new 2, 3) := by decide +kernel
theorem dX15_init_78 : decode cX15_init 78 = .ok (.dup, 1) := by decide +kernel
theorem dX15_init_79 : decode cX15_init 79 = .ok (.sipush 270, 3) := by decide +kernel
theorem dX15_init_82 : decode cX15_init 82 = .ok (.invokespecial 95, 3) := by decide +kernel
theorem dX15_init_85 : decode cX15_init 85 = .ok (.putfield 65, 3) := by decide +kernel
theorem dX15_init_88 : decode cX15_init 88 = .ok (.aload_n 0, 1) := by decide +kernel
theorem dX15_init_89 : decode cX15_init 89 = .ok (.new 2, 3) := by decide +kernel
theorem dX15_init_92 : decode cX15_init 92 = .ok (.dup, 1) := by decide +kernel
theorem dX15_init_93 : decode cX15_init 93 = .ok (.sipush 270, 3) := by decide +kernel
theorem dX15_init_96 : decode cX15_init 96 = .ok (.invokespecial 95, 3) := by decide +kernel
theorem dX15_init_99 : decode cX15_init 99 = .ok (.putfield 68, 3) := by decide +kernel
theorem dX15_init_102 : decode cX15_init 102 = .ok (.aload_n 0, 1) := by decide +kernel
theorem dX15_init_103 : decode cX15_init 103 = .ok (.new 2, 3) := by decide +kernel
theorem dX15_init_106 : decode cX15_init 106 = .ok (.dup, 1) := by decide +kernel
theorem dX15_init_107 : decode cX15_init 107 = .ok (.sipush 270, 3) := by decide +kernel
theorem dX15_init_110 : decode cX15_init 110 = .ok (.invokespecial 95, 3) := by decide +kernel
theorem dX15_init_113 : decode cX15_init 113 = .ok (.putfield 98, 3) := by decide +kernel
theorem dX15_init_116 : decode cX15_init 116 = .ok (.aload_n 0, 1) := by decide +kernel
theorem dX15_init_117 : decode cX15_init 117 = .ok (.new 2, 3) := by decide +kernel
theorem dX15_init_120 : decode cX15_init 120 = .ok (.dup, 1) := by decide +kernel
theorem dX15_init_121 : decode cX15_init 121 = .ok (.sipush 270, 3) := by decide +kernel
theorem dX15_init_124 : decode cX15_init 124 = .ok (.invokespecial 95, 3) := by decide +kernel
theorem dX15_init_127 : decode cX15_init 127 = .ok (.putfield 101, 3) := by decide +kernel
theorem dX15_init_130 : decode cX15_init 130 = .ok (.aload_n 0, 1) := by decide +kernel
theorem dX15_init_131 : decode cX15_init 131 = .ok (.new 2, 3) := by decide +kernel
theorem dX15_init_134 : decode cX15_init 134 = .ok (.dup, 1) := by decide +kernel
theorem dX15_init_135 : decode cX15_init 135 = .ok (.sipush 270, 3) := by decide +kernel
theorem dX15_init_138 : decode cX15_init 138 = .ok (.invokespecial 95, 3) := by decide +kernel
theorem dX15_init_141 : decode cX15_init 141 = .ok (.putfield 104, 3) := by decide +kernel
theorem dX15_init_144 : decode cX15_init 144 = .ok (.aload_n 0, 1) := by decide +kernel
theorem dX15_init_145 : decode cX15_init 145 = .ok (.new 43, 3) := by decide +kernel
theorem dX15_init_148 : decode cX15_init 148 = .ok (.dup, 1) := by decide +kernel
theorem dX15_init_149 : decode cX15_init 149 = .ok (.aload_n 0, 1) := by decide +kernel
theorem dX15_init_150 : decode cX15_init 150 = .ok (.invokespecial 107, 3) := by decide +kernel
theorem dX15_init_153 : decode cX15_init 153 = .ok (.putfield 38, 3) := by decide +kernel
theorem dX15_init_156 : decode cX15_init 156 = .ok (.aload_n 0, 1) := by decide +kernel
theorem dX15_init_157 : decode cX15_init 157 = .ok (.new 43, 3) := by decide +kernel
theorem dX15_init_160 : decode cX15_init 160 = .ok (.dup, 1) := by decide +kernel
theorem dX15_init_161 : decode cX15_init 161 = .ok (.aload_n 0, 1) := by decide +kernel
theorem dX15_init_162 : decode cX15_init 162 = .ok (.invokespecial 107, 3) := by decide +kernel
theorem dX15_init_165 : decode cX15_init 165 = .ok (.putfield 110, 3) := by decide +kernel
theorem dX15_init_168 : decode cX15_init 168 = .ok (.aload_n 0, 1) := by decide +kernel
theorem dX15_init_169 : decode cX15_init 169 = .ok (.bipush 30, 2) := by decide +kernel
theorem dX15_init_171 : decode cX15_init 171 = .ok (.bipush 30, 2) := by decide +kernel
theorem dX15_init_173 : decode cX15_init 173 = .ok (.multianewarray 113 2, 4) := by decide +kernel
theorem dX15_init_177 : decode cX15_init 177 = .ok (.putfield 81, 3) := by decide +kernel
theorem dX15_init_180 : decode cX15_init 180 = .ok (.aload_n 0, 1) := by decide +kernel
theorem dX15_init_181 : decode cX15_init 181 = .ok (.bipush 30, 2) := by decide +kernel
theorem dX15_init_183 : decode cX15_init 183 = .ok (.anewarray 2, 3) := by decide +kernel
theorem dX15_init_186 : decode cX15_init 186 = .ok (.putfield 114, 3) := by decide +kernel
theorem dX15_init_189 : decode cX15_init 189 = .ok (.aload_n 0, 1) := by decide +kernel
theorem dX15_init_190 : decode cX15_init 190 = .ok (.bipush 30, 2) := by decide +kernel
theorem dX15_init_192 : decode cX15_init 192 = .ok (.newarray .int, 2) := by decide +kernel
theorem dX15_init_194 : decode cX15_init 194 = .ok (.putfield 84, 3) := by decide +kernel
theorem dX15_init_197 : decode cX15_init 197 = .ok (.aload_n 0, 1) := by decide +kernel
theorem dX15_init_198 : decode cX15_init 198 = .ok (.iconst (-1), 1) := by decide +kernel
theorem dX15_init_199 : decode cX15_init 199 = .ok (.putfield 118, 3) := by decide +kernel
theorem dX15_init_202 : decode cX15_init 202 = .ok (.aload_n 0, 1) := by decide +kernel
theorem dX15_init_203 : decode cX15_init 203 = .ok (.iconst (-1), 1) := by decide +kernel
theorem dX15_init_204 : decode cX15_init 204 = .ok (.putfield 121, 3) := by decide +kernel
theorem dX15_init_207 : decode cX15_init 207 = .ok (.aload_n 0, 1) := by decide +kernel
theorem dX15_init_208 : decode cX15_init 208 = .ok (.sipush 200, 3) := by decide +kernel
theorem dX15_init_211 : decode cX15_init 211 = .ok (.newarray .int, 2) := by decide +kernel
theorem dX15_init_213 : decode cX15_init 213 = .ok (.putfield 124, 3) := by decide +kernel
theorem dX15_init_216 : decode cX15_init 216 = .ok (.aload_n 0, 1) := by decide +kernel
theorem dX15_init_217 : decode cX15_init 217 = .ok (.new 127, 3) := by decide +kernel
theorem dX15_init_220 : decode cX15_init 220 = .ok (.dup, 1) := by decide +kernel
theorem dX15_init_221 : decode cX15_init 221 = .ok (.bipush 64, 2) := by decide +kernel
theorem dX15_init_223 : decode cX15_init 223 = .ok (.invokespecial 129, 3) := by decide +kernel
theorem dX15_init_226 : decode cX15_init 226 = .ok (.putfield 130, 3) := by decide +kernel
theorem dX15_init_229 : decode cX15_init 229 = .ok (.aload_n 0, 1) := by decide +kernel
theorem dX15_init_230 : decode cX15_init 230 = .ok (.iconst 3, 1) := by decide +kernel
theorem dX15_init_231 : decode cX15_init 231 = .ok (.anewarray 127, 3) := by decide +kernel
theorem dX15_init_234 : decode cX15_init 234 = .ok (.dup, 1) := by decide +kernel
theorem dX15_init_235 : decode cX15_init 235 = .ok (.iconst 0, 1) := by decide +kernel
theorem dX15_init_236 : decode cX15_init 236 = .ok (.new 127, 3) := by decide +kernel
theorem dX15_init_239 : decode cX15_init 239 = .ok (.dup, 1) := by decide +kernel
theorem dX15_init_240 : decode cX15_init 240 = .ok (.bipush 64, 2) := by decide +kernel
theorem dX15_init_242 : decode cX15_init 242 = .ok (.invokespecial 129, 3) := by decide +kernel
theorem dX15_init_245 : decode cX15_init 245 = .ok (.aastore, 1) := by decide +kernel
theorem dX15_init_246 : decode cX15_init 246 = .ok (.dup, 1) := by decide +kernel
theorem dX15_init_247 : decode cX15_init 247 = .ok (.iconst 1, 1) := by decide +kernel
theorem dX15_init_248 : decode cX15_init 248 = .ok (.new 127, 3) := by decide +kernel
theorem dX15_init_251 : decode cX15_init 251 = .ok (.dup, 1) := by decide +kernel
theorem dX15_init_252 : decode cX15_init 252 = .ok (.bipush 64, 2) := by decide +kernel
theorem dX15_init_254 : decode cX15_init 254 = .ok (.invokespecial 129, 3) := by decide +kernel
theorem dX15_init_257 : decode cX15_init 257 = .ok (.aastore, 1) := by decide +kernel
theorem dX15_init_258 : decode cX15_init 258 = .ok (.dup, 1) := by decide +kernel
theorem dX15_init_259 : decode cX15_init 259 = .ok (.iconst 2, 1) := by decide +kernel
theorem dX15_init_260 : decode cX15_init 260 = .ok (.new 127, 3) := by decide +kernel
theorem dX15_init_263 : decode cX15_init 263 = .ok (.dup, 1) := by decide +kernel
theorem dX15_init_264 : decode cX15_init 264 = .ok (.bipush 64, 2) := by decide +kernel
theorem dX15_init_266 : decode cX15_init 266 = .ok (.invokespecial 129, 3) := by decide +kernel
theorem dX15_init_269 : decode cX15_init 269 = .ok (.aastore, 1) := by decide +kernel
theorem dX15_init_270 : decode cX15_init 270 = .ok (.putfield 134, 3) := by decide +kernel
theorem dX15_init_273 : decode cX15_init 273 = .ok (.aload_n 0, 1) := by decide +kernel
theorem dX15_init_274 : decode cX15_init 274 = .ok (.iconst 3, 1) := by decide +kernel
theorem dX15_init_275 : decode cX15_init 275 = .ok (.anewarray 127, 3) := by decide +kernel
theorem dX15_init_278 : decode cX15_init 278 = .ok (.dup, 1) := by decide +kernel
theorem dX15_init_279 : decode cX15_init 279 = .ok (.iconst 0, 1) := by decide +kernel
theorem dX15_init_280 : decode cX15_init 280 = .ok (.new 127, 3) := by decide +kernel
theorem dX15_init_283 : decode cX15_init 283 = .ok (.dup, 1) := by decide +kernel
theorem dX15_init_284 : decode cX15_init 284 = .ok (.bipush 64, 2) := by decide +kernel
theorem dX15_init_286 : decode cX15_init 286 = .ok (.invokespecial 129, 3) := by decide +kernel
theorem dX15_init_289 : decode cX15_init 289 = .ok (.aastore, 1) := by decide +kernel
theorem dX15_init_290 : decode cX15_init 290 = .ok (.dup, 1) := by decide +kernel
theorem dX15_init_291 : decode cX15_init 291 = .ok (.iconst 1, 1) := by decide +kernel
theorem dX15_init_292 : decode cX15_init 292 = .ok (.new 127, 3) := by decide +kernel
theorem dX15_init_295 : decode cX15_init 295 = .ok (.dup, 1) := by decide +kernel
theorem dX15_init_296 : decode cX15_init 296 = .ok (.bipush 64, 2) := by decide +kernel
theorem dX15_init_298 : decode cX15_init 298 = .ok (.invokespecial 129, 3) := by decide +kernel
theorem dX15_init_301 : decode cX15_init 301 = .ok (.aastore, 1) := by decide +kernel
theorem dX15_init_302 : decode cX15_init 302 = .ok (.dup, 1) := by decide +kernel
theorem dX15_init_303 : decode cX15_init 303 = .ok (.iconst 2, 1) := by decide +kernel
theorem dX15_init_304 : decode cX15_init 304 = .ok (.new 127, 3) := by decide +kernel
theorem dX15_init_307 : decode cX15_init 307 = .ok (.dup, 1) := by decide +kernel
theorem dX15_init_308 : decode cX15_init 308 = .ok (.bipush 64, 2) := by decide +kernel
theorem dX15_init_310 : decode cX15_init 310 = .ok (.invokespecial 129, 3) := by decide +kernel
theorem dX15_init_313 : decode cX15_init 313 = .ok (.aastore, 1) := by decide +kernel
theorem dX15_init_314 : decode cX15_init 314 = .ok (.putfield 138, 3) := by decide +kernel
theorem dX15_init_317 : decode cX15_init 317 = .ok (.aload_n 0, 1) := by decide +kernel
theorem dX15_init_318 : decode cX15_init 318 = .ok (.new 127, 3) := by decide +kernel
theorem dX15_init_321 : decode cX15_init 321 = .ok (.dup, 1) := by decide +kernel
theorem dX15_init_322 : decode cX15_init 322 = .ok (.bipush 64, 2) := by decide +kernel
theorem dX15_init_324 : decode cX15_init 324 = .ok (.invokespecial 129, 3) := by decide +kernel
theorem dX15_init_327 : decode cX15_init 327 = .ok (.putfield 141, 3) := by decide +kernel
theorem dX15_init_330 : decode cX15_init 330 = .ok (.aload_n 0, 1) := by decide +kernel
theorem dX15_init_331 : decode cX15_init 331 = .ok (.new 127, 3) := by decide +kernel
theorem dX15_init_334 : decode cX15_init 334 = .ok (.dup, 1) := by decide +kernel
theorem dX15_init_335 : decode cX15_init 335 = .ok (.sipush 4096, 3) := by decide +kernel
theorem dX15_init_338 : decode cX15_init 338 = .ok (.invokespecial 129, 3) := by decide +kernel
theorem dX15_init_341 : decode cX15_init 341 = .ok (.putfield 144, 3) := by decide +kernel
theorem dX15_init_344 : decode cX15_init 344 = .ok (.aload_n 0, 1) := by decide +kernel
theorem dX15_init_345 : decode cX15_init 345 = .ok (.iconst 3, 1) := by decide +kernel
theorem dX15_init_346 : decode cX15_init 346 = .ok (.iconst 4, 1) := by decide +kernel
theorem dX15_init_347 : decode cX15_init 347 = .ok (.multianewarray 147 2, 4) := by decide +kernel
theorem dX15_init_351 : decode cX15_init 351 = .ok (.putfield 149, 3) := by decide +kernel
theorem dX15_init_354 : decode cX15_init 354 = .ok (.aload_n 0, 1) := by decide +kernel
theorem dX15_init_355 : decode cX15_init 355 = .ok (.new 127, 3) := by decide +kernel
theorem dX15_init_358 : decode cX15_init 358 = .ok (.dup, 1) := by decide +kernel
theorem dX15_init_359 : decode cX15_init 359 = .ok (.bipush 64, 2) := by decide +kernel
theorem dX15_init_361 : decode cX15_init 361 = .ok (.invokespecial 129, 3) := by decide +kernel
theorem dX15_init_364 : decode cX15_init 364 = .ok (.putfield 152, 3) := by decide +kernel
theorem dX15_init_367 : decode cX15_init 367 = .ok (.aload_n 0, 1) := by decide +kernel
theorem dX15_init_368 : decode cX15_init 368 = .ok (.iconst 4, 1) := by decide +kernel
theorem dX15_init_369 : decode cX15_init 369 = .ok (.anewarray 127, 3) := by decide +kernel
theorem dX15_init_372 : decode cX15_init 372 = .ok (.dup, 1) := by decide +kernel
theorem dX15_init_373 : decode cX15_init 373 = .ok (.iconst 0, 1) := by decide +kernel
theorem dX15_init_374 : decode cX15_init 374 = .ok (.new 127, 3) := by decide +kernel
theorem dX15_init_377 : decode cX15_init 377 = .ok (.dup, 1) := by decide +kernel
theorem dX15_init_378 : decode cX15_init 378 = .ok (.bipush 64, 2) := by decide +kernel
theorem dX15_init_380 : decode cX15_init 380 = .ok (.invokespecial 129, 3) := by decide +kernel
theorem dX15_init_383 : decode cX15_init 383 = .ok (.aastore, 1) := by decide +kernel
theorem dX15_init_384 : decode cX15_init 384 = .ok (.dup, 1) := by decide +kernel
theorem dX15_init_385 : decode cX15_init 385 = .ok (.iconst 1, 1) := by decide +kernel
theorem dX15_init_386 : decode cX15_init 386 = .ok (.new 127, 3) := by decide +kernel
theorem dX15_init_389 : decode cX15_init 389 = .ok (.dup, 1) := by decide +kernel
theorem dX15_init_390 : decode cX15_init 390 = .ok (.bipush 64, 2) := by decide +kernel
theorem dX15_init_392 : decode cX15_init 392 = .ok (.invokespecial 129, 3) := by decide +kernel
theorem dX15_init_395 : decode cX15_init 395 = .ok (.aastore, 1) := by decide +kernel
theorem dX15_init_396 : decode cX15_init 396 = .ok (.dup, 1) := by decide +kernel
theorem dX15_init_397 : decode cX15_init 397 = .ok (.iconst 2, 1) := by decide +kernel
theorem dX15_init_398 : decode cX15_init 398 = .ok (.new 127, 3) := by decide +kernel
theorem dX15_init_401 : decode cX15_init 401 = .ok (.dup, 1) := by decide +kernel
theorem dX15_init_402 : decode cX15_init 402 = .ok (.bipush 64, 2) := by decide +kernel
theorem dX15_init_404 : decode cX15_init 404 = .ok (.invokespecial 129, 3) := by decide +kernel
theorem dX15_init_407 : decode cX15_init 407 = .ok (.aastore, 1) := by decide +kernel
theorem dX15_init_408 : decode cX15_init 408 = .ok (.dup, 1) := by decide +kernel
theorem dX15_init_409 : decode cX15_init 409 = .ok (.iconst 3, 1) := by decide +kernel
theorem dX15_init_410 : decode cX15_init 410 = .ok (.new 127, 3) := by decide +kernel
theorem dX15_init_413 : decode cX15_init 413 = .ok (.dup, 1) := by decide +kernel
theorem dX15_init_414 : decode cX15_init 414 = .ok (.bipush 64, 2) := by decide +kernel
theorem dX15_init_416 : decode cX15_init 416 = .ok (.invokespecial 129, 3) := by decide +kernel
theorem dX15_init_419 : decode cX15_init 419 = .ok (.aastore, 1) := by decide +kernel
theorem dX15_init_420 : decode cX15_init 420 = .ok (.putfield 155, 3) := by decide +kernel
theorem dX15_init_423 : decode cX15_init 423 = .ok (.aload_n 0, 1) := by decide +kernel
theorem dX15_init_424 : decode cX15_init 424 = .ok (.new 127, 3) := by decide +kernel
theorem dX15_init_427 : decode cX15_init 427 = .ok (.dup, 1) := by decide +kernel
theorem dX15_init_428 : decode cX15_init 428 = .ok (.bipush 64, 2) := by decide +kernel
theorem dX15_init_430 : decode cX15_init 430 = .ok (.invokespecial 129, 3) := by decide +kernel
theorem dX15_init_433 : decode cX15_init 433 = .ok (.putfield 158, 3) := by decide +kernel
theorem dX15_init_436 : decode cX15_init 436 = .ok (.aload_n 0, 1) := by decide +kernel
theorem dX15_init_437 : decode cX15_init 437 = .ok (.new 127, 3) := by decide +kernel
theorem dX15_init_440 : decode cX15_init 440 = .ok (.dup, 1) := by decide +kernel
theorem dX15_init_441 : decode cX15_init 441 = .ok (.bipush 64, 2) := by decide +kernel
theorem dX15_init_443 : decode cX15_init 443 = .ok (.invokespecial 129, 3) := by decide +kernel
theorem dX15_init_446 : decode cX15_init 446 = .ok (.putfield 161, 3) := by decide +kernel
theorem dX15_init_449 : decode cX15_init 449 = .ok (.aload_n 0, 1) := by decide +kernel
theorem dX15_init_450 : decode cX15_init 450 = .ok (.iconst 3, 1) := by decide +kernel
theorem dX15_init_451 : decode cX15_init 451 = .ok (.anewarray 127, 3) := by decide +kernel
theorem dX15_init_454 : decode cX15_init 454 = .ok (.dup, 1) := by decide +kernel
theorem dX15_init_455 : decode cX15_init 455 = .ok (.iconst 0, 1) := by decide +kernel
theorem dX15_init_456 : decode cX15_init 456 = .ok (.new 127, 3) := by decide +kernel
theorem dX15_init_459 : decode cX15_init 459 = .ok (.dup, 1) := by decide +kernel
theorem dX15_init_460 : decode cX15_init 460 = .ok (.bipush 64, 2) := by decide +kernel
theorem dX15_init_462 : decode cX15_init 462 = .ok (.invokespecial 129, 3) := by decide +kernel
theorem dX15_init_465 : decode cX15_init 465 = .ok (.aastore, 1) := by decide +kernel
theorem dX15_init_466 : decode cX15_init 466 = .ok (.dup, 1) := by decide +kernel
theorem dX15_init_467 : decode cX15_init 467 = .ok (.iconst 1, 1) := by decide +kernel
theorem dX15_init_468 : decode cX15_init 468 = .ok (.new 127, 3) := by decide +kernel
theorem dX15_init_471 : decode cX15_init 471 = .ok (.dup, 1) := by decide +kernel
theorem dX15_init_472 : decode cX15_init 472 = .ok (.sipush 256, 3) := by decide +kernel
theorem dX15_init_475 : decode cX15_init 475 = .ok (.invokespecial 129, 3) := by decide +kernel
theorem dX15_init_478 : decode cX15_init 478 = .ok (.aastore, 1) := by decide +kernel
theorem dX15_init_479 : decode cX15_init 479 = .ok (.dup, 1) := by decide +kernel
theorem dX15_init_480 : decode cX15_init 480 = .ok (.iconst 2, 1) := by decide +kernel
theorem dX15_init_481 : decode cX15_init 481 = .ok (.new 127, 3) := by decide +kernel
theorem dX15_init_484 : decode cX15_init 484 = .ok (.dup, 1) := by decide +kernel
theorem dX15_init_485 : decode cX15_init 485 = .ok (.sipush 1024, 3) := by decide +kernel
theorem dX15_init_488 : decode cX15_init 488 = .ok (.invokespecial 129, 3) := by decide +kernel
theorem dX15_init_491 : decode cX15_init 491 = .ok (.aastore, 1) := by decide +kernel
theorem dX15_init_492 : decode cX15_init 492 = .ok (.putfield 164, 3) := by decide +kernel
theorem dX15_init_495 : decode cX15_init 495 = .ok (.aload_n 0, 1) := by decide +kernel
theorem dX15_init_496 : decode cX15_init 496 = .ok (.iconst 4, 1) := by decide +kernel
theorem dX15_init_497 : decode cX15_init 497 = .ok (.anewarray 127, 3) := by decide +kernel
theorem dX15_init_500 : decode cX15_init 500 = .ok (.dup, 1) := by decide +kernel
theorem dX15_init_501 : decode cX15_init 501 = .ok (.iconst 0, 1) := by decide +kernel
theorem dX15_init_502 : decode cX15_init 502 = .ok (.new 127, 3) := by decide +kernel
theorem dX15_init_505 : decode cX15_init 505 = .ok (.dup, 1) := by decide +kernel
theorem dX15_init_506 : decode cX15_init 506 = .ok (.bipush 64, 2) := by decide +kernel
theorem dX15_init_508 : decode cX15_init 508 = .ok (.invokespecial 129, 3) := by decide +kernel
theorem dX15_init_511 : decode cX15_init 511 = .ok (.aastore, 1) := by decide +kernel
theorem dX15_init_512 : decode cX15_init 512 = .ok (.dup, 1) := by decide +kernel
theorem dX15_init_513 : decode cX15_init 513 = .ok (.iconst 1, 1) := by decide +kernel
theorem dX15_init_514 : decode cX15_init 514 = .ok (.new 127, 3) := by decide +kernel
theorem dX15_init_517 : decode cX15_init 517 = .ok (.dup, 1) := by decide +kernel
theorem dX15_init_518 : decode cX15_init 518 = .ok (.sipush 256, 3) := by decide +kernel
theorem dX15_init_521 : decode cX15_init 521 = .ok (.invokespecial 129, 3) := by decide +kernel
theorem dX15_init_524 : decode cX15_init 524 = .ok (.aastore, 1) := by decide +kernel
theorem dX15_init_525 : decode cX15_init 525 = .ok (.dup, 1) := by decide +kernel
theorem dX15_init_526 : decode cX15_init 526 = .ok (.iconst 2, 1) := by decide +kernel
theorem dX15_init_527 : decode cX15_init 527 = .ok (.new 127, 3) := by decide +kernel
theorem dX15_init_530 : decode cX15_init 530 = .ok (.dup, 1) := by decide +kernel
theorem dX15_init_531 : decode cX15_init 531 = .ok (.sipush 1024, 3) := by decide +kernel
theorem dX15_init_534 : decode cX15_init 534 = .ok (.invokespecial 129, 3) := by decide +kernel
theorem dX15_init_537 : decode cX15_init 537 = .ok (.aastore, 1) := by decide +kernel
theorem dX15_init_538 : decode cX15_init 538 = .ok (.dup, 1) := by decide +kernel
theorem dX15_init_539 : decode cX15_init 539 = .ok (.iconst 3, 1) := by decide +kernel
theorem dX15_init_540 : decode cX15_init 540 = .ok (.new 127, 3) := by decide +kernel
theorem dX15_init_543 : decode cX15_init 543 = .ok (.dup, 1) := by decide +kernel
theorem dX15_init_544 : decode cX15_init 544 = .ok (.sipush 8192, 3) := by decide +kernel
theorem dX15_init_547 : decode cX15_init 547 = .ok (.invokespecial 129, 3) := by decide +kernel
theorem dX15_init_550 : decode cX15_init 550 = .ok (.aastore, 1) := by decide +kernel
theorem dX15_init_551 : decode cX15_init 551 = .ok (.putfield 167, 3) := by decide +kernel
theorem dX15_init_554 : decode cX15_init 554 = .ok (.aload_n 0, 1) := by decide +kernel
theorem dX15_init_555 : decode cX15_init 555 = .ok (.new 127, 3) := by decide +kernel
theorem dX15_init_558 : decode cX15_init 558 = .ok (.dup, 1) := by decide +kernel
theorem dX15_init_559 : decode cX15_init 559 = .ok (.ldc 170, 2) := by decide +kernel
theorem dX15_init_561 : decode cX15_init 561 = .ok (.invokespecial 129, 3) := by decide +kernel
theorem dX15_init_564 : decode cX15_init 564 = .ok (.putfield 171, 3) := by decide +kernel
theorem dX15_init_567 : decode cX15_init 567 = .ok (.aload_n 0, 1) := by decide +kernel
theorem dX15_init_568 : decode cX15_init 568 = .ok (.new 127, 3) := by decide +kernel
theorem dX15_init_571 : decode cX15_init 571 = .ok (.dup, 1) := by decide +kernel
theorem dX15_init_572 : decode cX15_init 572 = .ok (.ldc 174, 2) := by decide +kernel
theorem dX15_init_574 : decode cX15_init 574 = .ok (.invokespecial 129, 3) := by decide +kernel
theorem dX15_init_577 : decode cX15_init 577 = .ok (.putfield 175, 3) := by decide +kernel
theorem dX15_init_580 : decode cX15_init 580 = .ok (.aload_n 0, 1) := by decide +kernel
theorem dX15_init_581 : decode cX15_init 581 = .ok (.new 127, 3) := by decide +kernel
theorem dX15_init_584 : decode cX15_init 584 = .ok (.dup, 1) := by decide +kernel
theorem dX15_init_585 : decode cX15_init 585 = .ok (.bipush 64, 2) := by decide +kernel
theorem dX15_init_587 : decode cX15_init 587 = .ok (.invokespecial 129, 3) := by decide +kernel
theorem dX15_init_590 : decode cX15_init 590 = .ok (.putfield 178, 3) := by decide +kernel
theorem dX15_init_593 : decode cX15_init 593 = .ok (.aload_n 0, 1) := by decide +kernel
theorem dX15_init_594 : decode cX15_init 594 = .ok (.new 127, 3) := by decide +kernel
theorem dX15_init_597 : decode cX15_init 597 = .ok (.dup, 1) := by decide +kernel
theorem dX15_init_598 : decode cX15_init 598 = .ok (.ldc 170, 2) := by decide +kernel
theorem dX15_init_600 : decode cX15_init 600 = .ok (.invokespecial 129, 3) := by decide +kernel
theorem dX15_init_603 : decode cX15_init 603 = .ok (.putfield 181, 3) := by decide +kernel
theorem dX15_init_606 : decode cX15_init 606 = .ok (.aload_n 0, 1) := by decide +kernel
theorem dX15_init_607 : decode cX15_init 607 = .ok (.new 127, 3) := by decide +kernel
theorem dX15_init_610 : decode cX15_init 610 = .ok (.dup, 1) := by decide +kernel
theorem dX15_init_611 : decode cX15_init 611 = .ok (.bipush 64, 2) := by decide +kernel
theorem dX15_init_613 : decode cX15_init 613 = .ok (.invokespecial 129, 3) := by decide +kernel
theorem dX15_init_616 : decode cX15_init 616 = .ok (.putfield 184, 3) := by decide +kernel
theorem dX15_init_619 : decode cX15_init 619 = .ok (.aload_n 0, 1) := by decide +kernel
theorem dX15_init_620 : decode cX15_init 620 = .ok (.bipush 30, 2) := by decide +kernel
theorem dX15_init_622 : decode cX15_init 622 = .ok (.newarray .long, 2) := by decide +kernel
theorem dX15_init_624 : decode cX15_init 624 = .ok (.putfield 187, 3) := by decide +kernel
theorem dX15_init_627 : decode cX15_init 627 = .ok (.aload_n 0, 1) := by decide +kernel
theorem dX15_init_628 : decode cX15_init 628 = .ok (.bipush 30, 2) := by decide +kernel
theorem dX15_init_630 : decode cX15_init 630 = .ok (.newarray .int, 2) := by decide +kernel
theorem dX15_init_632 : decode cX15_init 632 = .ok (.putfield 191, 3) := by decide +kernel
theorem dX15_init_635 : decode cX15_init 635 = .ok (.aload_n 0, 1) := by decide +kernel
theorem dX15_init_636 : decode cX15_init 636 = .ok (.new 127, 3) := by decide +kernel
theorem dX15_init_639 : decode cX15_init 639 = .ok (.dup, 1) := by decide +kernel
theorem dX15_init_640 : decode cX15_init 640 = .ok (.bipush 64, 2) := by decide +kernel
theorem dX15_init_642 : decode cX15_init 642 = .ok (.invokespecial 129, 3) := by decide +kernel
theorem dX15_init_645 : decode cX15_init 645 = .ok (.putfield 194, 3) := by decide +kernel
theorem dX15_init_648 : decode cX15_init 648 = .ok (.aload_n 0, 1) := by decide +kernel
theorem dX15_init_649 : decode cX15_init 649 = .ok (.ldc 197, 2) := by decide +kernel
theorem dX15_init_651 : decode cX15_init 651 = .ok (.newarray .long, 2) := by decide +kernel
theorem dX15_init_653 : decode cX15_init 653 = .ok (.putfield 198, 3) := by decide +kernel
theorem dX15_init_656 : decode cX15_init 656 = .ok (.aload_n 0, 1) := by decide +kernel
theorem dX15_init_657 : decode cX15_init 657 = .ok (.ldc 197, 2) := by decide +kernel
theorem dX15_init_659 : decode cX15_init 659 = .ok (.newarray .long, 2) := by decide +kernel
theorem dX15_init_661 : decode cX15_init 661 = .ok (.putfield 201, 3) := by decide +kernel
theorem dX15_init_664 : decode cX15_init 664 = .ok (.aload_n 0, 1) := by decide +kernel
theorem dX15_init_665 : decode cX15_init 665 = .ok (.ldc 197, 2) := by decide +kernel
theorem dX15_init_667 : decode cX15_init 667 = .ok (.newarray .int, 2) := by decide +kernel
theorem dX15_init_669 : decode cX15_init 669 = .ok (.putfield 204, 3) := by decide +kernel
theorem dX15_init_672 : decode cX15_init 672 = .ok (.aload_n 0, 1) := by decide +kernel
theorem dX15_init_673 : decode cX15_init 673 = .ok (.bipush 30, 2) := by decide +kernel
theorem dX15_init_675 : decode cX15_init 675 = .ok (.bipush 30, 2) := by decide +kernel
theorem dX15_init_677 : decode cX15_init 677 = .ok (.multianewarray 207 2, 4) := by decide +kernel
theorem dX15_init_681 : decode cX15_init 681 = .ok (.putfield 209, 3) := by decide +kernel
theorem dX15_init_684 : decode cX15_init 684 = .ok (.aload_n 0, 1) := by decide +kernel
theorem dX15_init_685 : decode cX15_init 685 = .ok (.bipush 30, 2) := by decide +kernel
theorem dX15_init_687 : decode cX15_init 687 = .ok (.newarray .int, 2) := by decide +kernel
theorem dX15_init_689 : decode cX15_init 689 = .ok (.putfield 212, 3) := by decide +kernel
theorem dX15_init_692 : decode cX15_init 692 = .ok (.aload_n 0, 1) := by decide +kernel
theorem dX15_init_693 : decode cX15_init 693 = .ok (.bipush 30, 2) := by decide +kernel
theorem dX15_init_695 : decode cX15_init 695 = .ok (.newarray .long, 2) := by decide +kernel
theorem dX15_init_697 : decode cX15_init 697 = .ok (.putfield 215, 3) := by decide +kernel
theorem dX15_init_700 : decode cX15_init 700 = .ok (.aload_n 0, 1) := by decide +kernel
theorem dX15_init_701 : decode cX15_init 701 = .ok (.new 127, 3) := by decide +kernel
theorem dX15_init_704 : decode cX15_init 704 = .ok (.dup, 1) := by decide +kernel
theorem dX15_init_705 : decode cX15_init 705 = .ok (.bipush 64, 2) := by decide +kernel
theorem dX15_init_707 : decode cX15_init 707 = .ok (.invokespecial 129, 3) := by decide +kernel
theorem dX15_init_710 : decode cX15_init 710 = .ok (.putfield 218, 3) := by decide +kernel
theorem dX15_init_713 : decode cX15_init 713 = .ok (.aload_n 0, 1) := by decide +kernel
theorem dX15_init_714 : decode cX15_init 714 = .ok (.bipush 30, 2) := by decide +kernel
theorem dX15_init_716 : decode cX15_init 716 = .ok (.newarray .long, 2) := by decide +kernel
theorem dX15_init_718 : decode cX15_init 718 = .ok (.putfield 221, 3) := by decide +kernel
theorem dX15_init_721 : decode cX15_init 721 = .ok (.aload_n 0, 1) := by decide +kernel
theorem dX15_init_722 : decode cX15_init 722 = .ok (.iconst 3, 1) := by decide +kernel
theorem dX15_init_723 : decode cX15_init 723 = .ok (.anewarray 127, 3) := by decide +kernel
theorem dX15_init_726 : decode cX15_init 726 = .ok (.dup, 1) := by decide +kernel
theorem dX15_init_727 : decode cX15_init 727 = .ok (.iconst 0, 1) := by decide +kernel
theorem dX15_init_728 : decode cX15_init 728 = .ok (.new 127, 3) := by decide +kernel
theorem dX15_init_731 : decode cX15_init 731 = .ok (.dup, 1) := by decide +kernel
theorem dX15_init_732 : decode cX15_init 732 = .ok (.bipush 64, 2) := by decide +kernel
theorem dX15_init_734 : decode cX15_init 734 = .ok (.invokespecial 129, 3) := by decide +kernel
theorem dX15_init_737 : decode cX15_init 737 = .ok (.aastore, 1) := by decide +kernel
theorem dX15_init_738 : decode cX15_init 738 = .ok (.dup, 1) := by decide +kernel
theorem dX15_init_739 : decode cX15_init 739 = .ok (.iconst 1, 1) := by decide +kernel
theorem dX15_init_740 : decode cX15_init 740 = .ok (.new 127, 3) := by decide +kernel
theorem dX15_init_743 : decode cX15_init 743 = .ok (.dup, 1) := by decide +kernel
theorem dX15_init_744 : decode cX15_init 744 = .ok (.bipush 64, 2) := by decide +kernel
theorem dX15_init_746 : decode cX15_init 746 = .ok (.invokespecial 129, 3) := by decide +kernel
theorem dX15_init_749 : decode cX15_init 749 = .ok (.aastore, 1) := by decide +kernel
theorem dX15_init_750 : decode cX15_init 750 = .ok (.dup, 1) := by decide +kernel
theorem dX15_init_751 : decode cX15_init 751 = .ok (.iconst 2, 1) := by decide +kernel
theorem dX15_init_752 : decode cX15_init 752 = .ok (.new 127, 3) := by decide +kernel
theorem dX15_init_755 : decode cX15_init 755 = .ok (.dup, 1) := by decide +kernel
theorem dX15_init_756 : decode cX15_init 756 = .ok (.bipush 64, 2) := by decide +kernel
theorem dX15_init_758 : decode cX15_init 758 = .ok (.invokespecial 129, 3) := by decide +kernel
theorem dX15_init_761 : decode cX15_init 761 = .ok (.aastore, 1) := by decide +kernel
theorem dX15_init_762 : decode cX15_init 762 = .ok (.putfield 224, 3) := by decide +kernel
theorem dX15_init_765 : decode cX15_init 765 = .ok (.aload_n 0, 1) := by decide +kernel
theorem dX15_init_766 : decode cX15_init 766 = .ok (.iconst 3, 1) := by decide +kernel
theorem dX15_init_767 : decode cX15_init 767 = .ok (.anewarray 127, 3) := by decide +kernel
theorem dX15_init_770 : decode cX15_init 770 = .ok (.dup, 1) := by decide +kernel
theorem dX15_init_771 : decode cX15_init 771 = .ok (.iconst 0, 1) := by decide +kernel
theorem dX15_init_772 : decode cX15_init 772 = .ok (.new 127, 3) := by decide +kernel
theorem dX15_init_775 : decode cX15_init 775 = .ok (.dup, 1) := by decide +kernel
theorem dX15_init_776 : decode cX15_init 776 = .ok (.sipush 2048, 3) := by decide +kernel
theorem dX15_init_779 : decode cX15_init 779 = .ok (.invokespecial 129, 3) := by decide +kernel
theorem dX15_init_782 : decode cX15_init 782 = .ok (.aastore, 1) := by decide +kernel
theorem dX15_init_783 : decode cX15_init 783 = .ok (.dup, 1) := by decide +kernel
theorem dX15_init_784 : decode cX15_init 784 = .ok (.iconst 1, 1) := by decide +kernel
theorem dX15_init_785 : decode cX15_init 785 = .ok (.new 127, 3) := by decide +kernel
theorem dX15_init_788 : decode cX15_init 788 = .ok (.dup, 1) := by decide +kernel
theorem dX15_init_789 : decode cX15_init 789 = .ok (.sipush 2048, 3) := by decide +kernel
theorem dX15_init_792 : decode cX15_init 792 = .ok (.invokespecial 129, 3) := by decide +kernel
theorem dX15_init_795 : decode cX15_init 795 = .ok (.aastore, 1) := by decide +kernel
theorem dX15_init_796 : decode cX15_init 796 = .ok (.dup, 1) := by decide +kernel
theorem dX15_init_797 : decode cX15_init 797 = .ok (.iconst 2, 1) := by decide +kernel
theorem dX15_init_798 : decode cX15_init 798 = .ok (.new 127, 3) := by decide +kernel
theorem dX15_init_801 : decode cX15_init 801 = .ok (.dup, 1) := by decide +kernel
theorem dX15_init_802 : decode cX15_init 802 = .ok (.sipush 2048, 3) := by decide +kernel
theorem dX15_init_805 : decode cX15_init 805 = .ok (.invokespecial 129, 3) := by decide +kernel
theorem dX15_init_808 : decode cX15_init 808 = .ok (.aastore, 1) := by decide +kernel
theorem dX15_init_809 : decode cX15_init 809 = .ok (.putfield 227, 3) := by decide +kernel
theorem dX15_init_812 : decode cX15_init 812 = .ok (.aload_n 0, 1) := by decide +kernel
theorem dX15_init_813 : decode cX15_init 813 = .ok (.iconst 3, 1) := by decide +kernel
theorem dX15_init_814 : decode cX15_init 814 = .ok (.anewarray 127, 3) := by decide +kernel
theorem dX15_init_817 : decode cX15_init 817 = .ok (.dup, 1) := by decide +kernel
theorem dX15_init_818 : decode cX15_init 818 = .ok (.iconst 0, 1) := by decide +kernel
theorem dX15_init_819 : decode cX15_init 819 = .ok (.new 127, 3) := by decide +kernel
theorem dX15_init_822 : decode cX15_init 822 = .ok (.dup, 1) := by decide +kernel
theorem dX15_init_823 : decode cX15_init 823 = .ok (.sipush 2048, 3) := by decide +kernel
theorem dX15_init_826 : decode cX15_init 826 = .ok (.invokespecial 129, 3) := by decide +kernel
theorem dX15_init_829 : decode cX15_init 829 = .ok (.aastore, 1) := by decide +kernel
theorem dX15_init_830 : decode cX15_init 830 = .ok (.dup, 1) := by decide +kernel
theorem dX15_init_831 : decode cX15_init 831 = .ok (.iconst 1, 1) := by decide +kernel
theorem dX15_init_832 : decode cX15_init 832 = .ok (.new 127, 3) := by decide +kernel
theorem dX15_init_835 : decode cX15_init 835 = .ok (.dup, 1) := by decide +kernel
theorem dX15_init_836 : decode cX15_init 836 = .ok (.sipush 2048, 3) := by decide +kernel
theorem dX15_init_839 : decode cX15_init 839 = .ok (.invokespecial 129, 3) := by decide +kernel
theorem dX15_init_842 : decode cX15_init 842 = .ok (.aastore, 1) := by decide +kernel
theorem dX15_init_843 : decode cX15_init 843 = .ok (.dup, 1) := by decide +kernel
theorem dX15_init_844 : decode cX15_init 844 = .ok (.iconst 2, 1) := by decide +kernel
theorem dX15_init_845 : decode cX15_init 845 = .ok (.new 127, 3) := by decide +kernel
theorem dX15_init_848 : decode cX15_init 848 = .ok (.dup, 1) := by decide +kernel
theorem dX15_init_849 : decode cX15_init 849 = .ok (.sipush 2048, 3) := by decide +kernel
theorem dX15_init_852 : decode cX15_init 852 = .ok (.invokespecial 129, 3) := by decide +kernel
theorem dX15_init_855 : decode cX15_init 855 = .ok (.aastore, 1) := by decide +kernel
theorem dX15_init_856 : decode cX15_init 856 = .ok (.putfield 230, 3) := by decide +kernel
theorem dX15_init_859 : decode cX15_init 859 = .ok (.aload_n 0, 1) := by decide +kernel
theorem dX15_init_860 : decode cX15_init 860 = .ok (.new 127, 3) := by decide +kernel
theorem dX15_init_863 : decode cX15_init 863 = .ok (.dup, 1) := by decide +kernel
theorem dX15_init_864 : decode cX15_init 864 = .ok (.sipush 2048, 3) := by decide +kernel
theorem dX15_init_867 : decode cX15_init 867 = .ok (.invokespecial 129, 3) := by decide +kernel
theorem dX15_init_870 : decode cX15_init 870 = .ok (.putfield 233, 3) := by decide +kernel
theorem dX15_init_873 : decode cX15_init 873 = .ok (.aload_n 0, 1) := by decide +kernel
theorem dX15_init_874 : decode cX15_init 874 = .ok (.bipush 30, 2) := by decide +kernel
theorem dX15_init_876 : decode cX15_init 876 = .ok (.bipush 30, 2) := by decide +kernel
theorem dX15_init_878 : decode cX15_init 878 = .ok (.bipush 30, 2) := by decide +kernel
theorem dX15_init_880 : decode cX15_init 880 = .ok (.multianewarray 235 3, 4) := by decide +kernel
theorem dX15_init_884 : decode cX15_init 884 = .ok (.putfield 237, 3) := by decide +kernel
theorem dX15_init_887 : decode cX15_init 887 = .ok (.aload_n 0, 1) := by decide +kernel
theorem dX15_init_888 : decode cX15_init 888 = .ok (.new 2, 3) := by decide +kernel
theorem dX15_init_891 : decode cX15_init 891 = .ok (.dup, 1) := by decide +kernel
theorem dX15_init_892 : decode cX15_init 892 = .ok (.sipush 270, 3) := by decide +kernel
theorem dX15_init_895 : decode cX15_init 895 = .ok (.invokespecial 95, 3) := by decide +kernel
theorem dX15_init_898 : decode cX15_init 898 = .ok (.putfield 240, 3) := by decide +kernel
theorem dX15_init_901 : decode cX15_init 901 = .ok (.aload_n 0, 1) := by decide +kernel
theorem dX15_init_902 : decode cX15_init 902 = .ok (.new 2, 3) := by decide +kernel
theorem dX15_init_905 : decode cX15_init 905 = .ok (.dup, 1) := by decide +kernel
theorem dX15_init_906 : decode cX15_init 906 = .ok (.sipush 270, 3) := by decide +kernel
theorem dX15_init_909 : decode cX15_init 909 = .ok (.invokespecial 95, 3) := by decide +kernel
theorem dX15_init_912 : decode cX15_init 912 = .ok (.putfield 243, 3) := by decide +kernel
theorem dX15_init_915 : decode cX15_init 915 = .ok (.aload_n 0, 1) := by decide +kernel
theorem dX15_init_916 : decode cX15_init 916 = .ok (.new 2, 3) := by decide +kernel
theorem dX15_init_919 : decode cX15_init 919 = .ok (.dup, 1) := by decide +kernel
theorem dX15_init_920 : decode cX15_init 920 = .ok (.sipush 270, 3) := by decide +kernel
theorem dX15_init_923 : decode cX15_init 923 = .ok (.invokespecial 95, 3) := by decide +kernel
theorem dX15_init_926 : decode cX15_init 926 = .ok (.putfield 246, 3) := by decide +kernel
theorem dX15_init_929 : decode cX15_init 929 = .ok (.aload_n 0, 1) := by decide +kernel
theorem dX15_init_930 : decode cX15_init 930 = .ok (.new 2, 3) := by decide +kernel
theorem dX15_init_933 : decode cX15_init 933 = .ok (.dup, 1) := by decide +kernel
theorem dX15_init_934 : decode cX15_init 934 = .ok (.sipush 270, 3) := by decide +kernel
theorem dX15_init_937 : decode cX15_init 937 = .ok (.invokespecial 95, 3) := by decide +kernel
theorem dX15_init_940 : decode cX15_init 940 = .ok (.putfield 249, 3) := by decide +kernel
theorem dX15_init_943 : decode cX15_init 943 = .ok (.aload_n 0, 1) := by decide +kernel
theorem dX15_init_944 : decode cX15_init 944 = .ok (.new 2, 3) := by decide +kernel
theorem dX15_init_947 : decode cX15_init 947 = .ok (.dup, 1) := by decide +kernel
theorem dX15_init_948 : decode cX15_init 948 = .ok (.sipush 270, 3) := by decide +kernel
theorem dX15_init_951 : decode cX15_init 951 = .ok (.invokespecial 95, 3) := by decide +kernel
theorem dX15_init_954 : decode cX15_init 954 = .ok (.putfield 252, 3) := by decide +kernel
theorem dX15_init_957 : decode cX15_init 957 = .ok (.aload_n 0, 1) := by decide +kernel
theorem dX15_init_958 : decode cX15_init 958 = .ok (.bipush 30, 2) := by decide +kernel
theorem dX15_init_960 : decode cX15_init 960 = .ok (.bipush 30, 2) := by decide +kernel
theorem dX15_init_962 : decode cX15_init 962 = .ok (.multianewarray 113 2, 4) := by decide +kernel
theorem dX15_init_966 : decode cX15_init 966 = .ok (.putfield 255, 3) := by decide +kernel
theorem dX15_init_969 : decode cX15_init 969 = .ok (.aload_n 0, 1) := by decide +kernel
theorem dX15_init_970 : decode cX15_init 970 = .ok (.iconst 3, 1) := by decide +kernel
theorem dX15_init_971 : decode cX15_init 971 = .ok (.iconst 3, 1) := by decide +kernel
theorem dX15_init_972 : decode cX15_init 972 = .ok (.multianewarray 258 2, 4) := by decide +kernel
theorem dX15_init_976 : decode cX15_init 976 = .ok (.putfield 260, 3) := by decide +kernel
theorem dX15_init_979 : decode cX15_init 979 = .ok (.aload_n 0, 1) := by decide +kernel
theorem dX15_init_980 : decode cX15_init 980 = .ok (.iconst 3, 1) := by decide +kernel
theorem dX15_init_981 : decode cX15_init 981 = .ok (.iconst 3, 1) := by decide +kernel
theorem dX15_init_982 : decode cX15_init 982 = .ok (.multianewarray 258 2, 4) := by decide +kernel
theorem dX15_init_986 : decode cX15_init 986 = .ok (.putfield 263, 3) := by decide +kernel
theorem dX15_init_989 : decode cX15_init 989 = .ok (.aload_n 0, 1) := by decide +kernel
theorem dX15_init_990 : decode cX15_init 990 = .ok (.iconst 5, 1) := by decide +kernel
theorem dX15_init_991 : decode cX15_init 991 = .ok (.iconst 5, 1) := by decide +kernel
theorem dX15_init_992 : decode cX15_init 992 = .ok (.multianewarray 207 2, 4) := by decide +kernel
theorem dX15_init_996 : decode cX15_init 996 = .ok (.putfield 266, 3) := by decide +kernel
theorem dX15_init_999 : decode cX15_init 999 = .ok (.aload_n 0, 1) := by decide +kernel
theorem dX15_init_1000 : decode cX15_init 1000 = .ok (.iconst 5, 1) := by decide +kernel
theorem dX15_init_1001 : decode cX15_init 1001 = .ok (.iconst 5, 1) := by decide +kernel
theorem dX15_init_1002 : decode cX15_init 1002 = .ok (.multianewarray 207 2, 4) := by decide +kernel
theorem dX15_init_1006 : decode cX15_init 1006 = .ok (.putfield 269, 3) := by decide +kernel
theorem dX15_init_1009 : decode cX15_init 1009 = .ok (.aload_n 0, 1) := by decide +kernel
theorem dX15_init_1010 : decode cX15_init 1010 = .ok (.iconst 4, 1) := by decide +kernel
theorem dX15_init_1011 : decode cX15_init 1011 = .ok (.iconst 5, 1) := by decide +kernel
theorem dX15_init_1012 : decode cX15_init 1012 = .ok (.iconst 5, 1) := by decide +kernel
theorem dX15_init_1013 : decode cX15_init 1013 = .ok (.multianewarray 235 3, 4) := by decide +kernel
theorem dX15_init_1017 : decode cX15_init 1017 = .ok (.putfield 272, 3) := by decide +kernel
theorem dX15_init_1020 : decode cX15_init 1020 = .ok (.aload_n 0, 1) := by decide +kernel
theorem dX15_init_1021 : decode cX15_init 1021 = .ok (.bipush 82, 2) := by decide +kernel
theorem dX15_init_1023 : decode cX15_init 1023 = .ok (.bipush 82, 2) := by decide +kernel
theorem dX15_init_1025 : decode cX15_init 1025 = .ok (.multianewarray 207 2, 4) := by decide +kernel
theorem dX15_init_1029 : decode cX15_init 1029 = .ok (.putfield 275, 3) := by decide +kernel
theorem dX15_init_1032 : decode cX15_init 1032 = .ok (.aload_n 0, 1) := by decide +kernel
theorem dX15_init_1033 : decode cX15_init 1033 = .ok (.bipush 82, 2) := by decide +kernel
theorem dX15_init_1035 : decode cX15_init 1035 = .ok (.bipush 82, 2) := by decide +kernel
theorem dX15_init_1037 : decode cX15_init 1037 = .ok (.multianewarray 207 2, 4) := by decide +kernel
theorem dX15_init_1041 : decode cX15_init 1041 = .ok (.putfield 278, 3) := by decide +kernel
theorem dX15_init_1044 : decode cX15_init 1044 = .ok (.aload_n 0, 1) := by decide +kernel
theorem dX15_init_1045 : decode cX15_init 1045 = .ok (.bipush 82, 2) := by decide +kernel
theorem dX15_init_1047 : decode cX15_init 1047 = .ok (.bipush 82, 2) := by decide +kernel
theorem dX15_init_1049 : decode cX15_init 1049 = .ok (.multianewarray 207 2, 4) := by decide +kernel
theorem dX15_init_1053 : decode cX15_init 1053 = .ok (.putfield 281, 3) := by decide +kernel
theorem dX15_init_1056 : decode cX15_init 1056 = .ok (.aload_n 0, 1) := by decide +kernel
theorem dX15_init_1057 : decode cX15_init 1057 = .ok (.iconst 4, 1) := by decide +kernel
theorem dX15_init_1058 : decode cX15_init 1058 = .ok (.anewarray 127, 3) := by decide +kernel
theorem dX15_init_1061 : decode cX15_init 1061 = .ok (.dup, 1) := by decide +kernel
theorem dX15_init_1062 : decode cX15_init 1062 = .ok (.iconst 0, 1) := by decide +kernel
theorem dX15_init_1063 : decode cX15_init 1063 = .ok (.new 127, 3) := by decide +kernel
theorem dX15_init_1066 : decode cX15_init 1066 = .ok (.dup, 1) := by decide +kernel
theorem dX15_init_1067 : decode cX15_init 1067 = .ok (.bipush 64, 2) := by decide +kernel
theorem dX15_init_1069 : decode cX15_init 1069 = .ok (.invokespecial 129, 3) := by decide +kernel
theorem dX15_init_1072 : decode cX15_init 1072 = .ok (.aastore, 1) := by decide +kernel
theorem dX15_init_1073 : decode cX15_init 1073 = .ok (.dup, 1) := by decide +kernel
theorem dX15_init_1074 : decode cX15_init 1074 = .ok (.iconst 1, 1) := by decide +kernel
theorem dX15_init_1075 : decode cX15_init 1075 = .ok (.new 127, 3) := by decide +kernel
theorem dX15_init_1078 : decode cX15_init 1078 = .ok (.dup, 1) := by decide +kernel
theorem dX15_init_1079 : decode cX15_init 1079 = .ok (.bipush 64, 2) := by decide +kernel
theorem dX15_init_1081 : decode cX15_init 1081 = .ok (.invokespecial 129, 3) := by decide +kernel
theorem dX15_init_1084 : decode cX15_init 1084 = .ok (.aastore, 1) := by decide +kernel
theorem dX15_init_1085 : decode cX15_init 1085 = .ok (.dup, 1) := by decide +kernel
theorem dX15_init_1086 : decode cX15_init 1086 = .ok (.iconst 2, 1) := by decide +kernel
theorem dX15_init_1087 : decode cX15_init 1087 = .ok (.new 127, 3) := by decide +kernel
theorem dX15_init_1090 : decode cX15_init 1090 = .ok (.dup, 1) := by decide +kernel
theorem dX15_init_1091 : decode cX15_init 1091 = .ok (.bipush 64, 2) := by decide +kernel
theorem dX15_init_1093 : decode cX15_init 1093 = .ok (.invokespecial 129, 3) := by decide +kernel
theorem dX15_init_1096 : decode cX15_init 1096 = .ok (.aastore, 1) := by decide +kernel
theorem dX15_init_1097 : decode cX15_init 1097 = .ok (.dup, 1) := by decide +kernel
theorem dX15_init_1098 : decode cX15_init 1098 = .ok (.iconst 3, 1) := by decide +kernel
theorem dX15_init_1099 : decode cX15_init 1099 = .ok (.new 127, 3) := by decide +kernel
theorem dX15_init_1102 : decode cX15_init 1102 = .ok (.dup, 1) := by decide +kernel
theorem dX15_init_1103 : decode cX15_init 1103 = .ok (.bipush 64, 2) := by decide +kernel
theorem dX15_init_1105 : decode cX15_init 1105 = .ok (.invokespecial 129, 3) := by decide +kernel
theorem dX15_init_1108 : decode cX15_init 1108 = .ok (.aastore, 1) := by decide +kernel
theorem dX15_init_1109 : decode cX15_init 1109 = .ok (.putfield 284, 3) := by decide +kernel
theorem dX15_init_1112 : decode cX15_init 1112 = .ok (.aload_n 0, 1) := by decide +kernel
theorem dX15_init_1113 : decode cX15_init 1113 = .ok (.new 127, 3) := by decide +kernel
theorem dX15_init_1116 : decode cX15_init 1116 = .ok (.dup, 1) := by decide +kernel
theorem dX15_init_1117 : decode cX15_init 1117 = .ok (.sipush 4096, 3) := by decide +kernel
theorem dX15_init_1120 : decode cX15_init 1120 = .ok (.invokespecial 129, 3) := by decide +kernel
theorem dX15_init_1123 : decode cX15_init 1123 = .ok (.putfield 287, 3) := by decide +kernel
theorem dX15_init_1126 : decode cX15_init 1126 = .ok (.aload_n 0, 1) := by decide +kernel
theorem dX15_init_1127 : decode cX15_init 1127 = .ok (.new 127, 3) := by decide +kernel
theorem dX15_init_1130 : decode cX15_init 1130 = .ok (.dup, 1) := by decide +kernel
theorem dX15_init_1131 : decode cX15_init 1131 = .ok (.sipush 4096, 3) := by decide +kernel
theorem dX15_init_1134 : decode cX15_init 1134 = .ok (.invokespecial 129, 3) := by decide +kernel
theorem dX15_init_1137 : decode cX15_init 1137 = .ok (.putfield 290, 3) := by decide +kernel
theorem dX15_init_1140 : decode cX15_init 1140 = .ok (.aload_n 0, 1) := by decide +kernel
theorem dX15_init_1141 : decode cX15_init 1141 = .ok (.new 127, 3) := by decide +kernel
theorem dX15_init_1144 : decode cX15_init 1144 = .ok (.dup, 1) := by decide +kernel
theorem dX15_init_1145 : decode cX15_init 1145 = .ok (.sipush 4096, 3) := by decide +kernel
theorem dX15_init_1148 : decode cX15_init 1148 = .ok (.invokespecial 129, 3) := by decide +kernel
theorem dX15_init_1151 : decode cX15_init 1151 = .ok (.putfield 293, 3) := by decide +kernel
theorem dX15_init_1154 : decode cX15_init 1154 = .ok (.iconst 0, 1) := by decide +kernel
theorem dX15_init_1155 : decode cX15_init 1155 = .ok (.istore_n 1, 1) := by decide +kernel
theorem dX15_init_1156 : decode cX15_init 1156 = .ok (.iload_n 1, 1) := by decide +kernel
theorem dX15_init_1157 : decode cX15_init 1157 = .ok (.bipush 30, 2) := by decide +kernel
theorem dX15_init_1159 : decode cX15_init 1159 = .ok (.if_icmp .ge 57, 3) := by decide +kernel
theorem dX15_init_1162 : decode cX15_init 1162 = .ok (.aload_n 0, 1) := by decide +kernel
theorem dX15_init_1163 : decode cX15_init 1163 = .ok (.getfield 114, 3) := by decide +kernel
theorem dX15_init_1166 : decode cX15_init 1166 = .ok (.iload_n 1, 1) := by decide +kernel
theorem dX15_init_1167 : decode cX15_init 1167 = .ok (.new 2, 3) := by decide +kernel
theorem dX15_init_1170 : decode cX15_init 1170 = .ok (.dup, 1) := by decide +kernel
theorem dX15_init_1171 : decode cX15_init 1171 = .ok (.sipush 270, 3) := by decide +kernel
theorem dX15_init_1174 : decode cX15_init 1174 = .ok (.invokespecial 95, 3) := by decide +kernel
theorem dX15_init_1177 : decode cX15_init 1177 = .ok (.aastore, 1) := by decide +kernel
theorem dX15_init_1178 : decode cX15_init 1178 = .ok (.iconst 0, 1) := by decide +kernel
theorem dX15_init_1179 : decode cX15_init 1179 = .ok (.istore_n 2, 1) := by decide +kernel
theorem dX15_init_1180 : decode cX15_init 1180 = .ok (.iload_n 2, 1) := by decide +kernel
theorem dX15_init_1181 : decode cX15_init 1181 = .ok (.bipush 30, 2) := by decide +kernel
theorem dX15_init_1183 : decode cX15_init 1183 = .ok (.if_icmp .ge 27, 3) := by decide +kernel
theorem dX15_init_1186 : decode cX15_init 1186 = .ok (.aload_n 0, 1) := by decide +kernel
theorem dX15_init_1187 : decode cX15_init 1187 = .ok (.getfield 81, 3) := by decide +kernel
theorem dX15_init_1190 : decode cX15_init 1190 = .ok (.iload_n 1, 1) := by decide +kernel
theorem dX15_init_1191 : decode cX15_init 1191 = .ok (.aaload, 1) := by decide +kernel
theorem dX15_init_1192 : decode cX15_init 1192 = .ok (.iload_n 2, 1) := by decide +kernel
theorem dX15_init_1193 : decode cX15_init 1193 = .ok (.new 2, 3) := by decide +kernel
theorem dX15_init_1196 : decode cX15_init 1196 = .ok (.dup, 1) := by decide +kernel
theorem dX15_init_1197 : decode cX15_init 1197 = .ok (.sipush 270, 3) := by decide +kernel
theorem dX15_init_1200 : decode cX15_init 1200 = .ok (.invokespecial 95, 3) := by decide +kernel
theorem dX15_init_1203 : decode cX15_init 1203 = .ok (.aastore, 1) := by decide +kernel
theorem dX15_init_1204 : decode cX15_init 1204 = .ok (.iinc 2 1, 3) := by decide +kernel
theorem dX15_init_1207 : decode cX15_init 1207 = .ok (.goto (-27), 3) := by decide +kernel
theorem dX15_init_1210 : decode cX15_init 1210 = .ok (.iinc 1 1, 3) := by decide +kernel
theorem dX15_init_1213 : decode cX15_init 1213 = .ok (.goto (-57), 3) := by decide +kernel
theorem dX15_init_1216 : decode cX15_init 1216 = .ok (.iconst 0, 1) := by decide +kernel
theorem dX15_init_1217 : decode cX15_init 1217 = .ok (.istore_n 1, 1) := by decide +kernel
theorem dX15_init_1218 : decode cX15_init 1218 = .ok (.iload_n 1, 1) := by decide +kernel
theorem dX15_init_1219 : decode cX15_init 1219 = .ok (.iconst 3, 1) := by decide +kernel
theorem dX15_init_1220 : decode cX15_init 1220 = .ok (.if_icmp .ge 39, 3) := by decide +kernel
theorem dX15_init_1223 : decode cX15_init 1223 = .ok (.iconst 0, 1) := by decide +kernel
theorem dX15_init_1224 : decode cX15_init 1224 = .ok (.istore_n 2, 1) := by decide +kernel
theorem dX15_init_1225 : decode cX15_init 1225 = .ok (.iload_n 2, 1) := by decide +kernel
theorem dX15_init_1226 : decode cX15_init 1226 = .ok (.iconst 4, 1) := by decide +kernel
theorem dX15_init_1227 : decode cX15_init 1227 = .ok (.if_icmp .ge 26, 3) := by decide +kernel
theorem dX15_init_1230 : decode cX15_init 1230 = .ok (.aload_n 0, 1) := by decide +kernel
theorem dX15_init_1231 : decode cX15_init 1231 = .ok (.getfield 149, 3) := by decide +kernel
theorem dX15_init_1234 : decode cX15_init 1234 = .ok (.iload_n 1, 1) := by decide +kernel
theorem dX15_init_1235 : decode cX15_init 1235 = .ok (.aaload, 1) := by decide +kernel
theorem dX15_init_1236 : decode cX15_init 1236 = .ok (.iload_n 2, 1) := by decide +kernel
theorem dX15_init_1237 : decode cX15_init 1237 = .ok (.new 127, 3) := by decide +kernel
theorem dX15_init_1240 : decode cX15_init 1240 = .ok (.dup, 1) := by decide +kernel
theorem dX15_init_1241 : decode cX15_init 1241 = .ok (.bipush 64, 2) := by decide +kernel
theorem dX15_init_1243 : decode cX15_init 1243 = .ok (.invokespecial 129, 3) := by decide +kernel
theorem dX15_init_1246 : decode cX15_init 1246 = .ok (.aastore, 1) := by decide +kernel
theorem dX15_init_1247 : decode cX15_init 1247 = .ok (.iinc 2 1, 3) := by decide +kernel
theorem dX15_init_1250 : decode cX15_init 1250 = .ok (.goto (-25), 3) := by decide +kernel
theorem dX15_init_1253 : decode cX15_init 1253 = .ok (.iinc 1 1, 3) := by decide +kernel
theorem dX15_init_1256 : decode cX15_init 1256 = .ok (.goto (-38), 3) := by decide +kernel
theorem dX15_init_1259 : decode cX15_init 1259 = .ok (.return_, 1) := by decide +kernel
