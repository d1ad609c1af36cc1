theorem wd_107 : Cond.methodLink RX9 3 objectInit ∈ tb := tb_of 107 (by decide +kernel) rfl
theorem wd_108 : Cond.instanceMethod objectInit ∈ tb := tb_of 108 (by decide +kernel) rfl
theorem wd_109 : Cond.code objectInit ⟨#[0xb1]⟩ 1 none ∈ tb := tb_of 109 (by decide +kernel) rfl
theorem wd_110 : Cond.classLink RX9 9 RX4 ∈ tb := tb_of 110 (by decide +kernel) rfl
theorem wd_111 : Cond.instantiable RX4 10 ∈ tb := tb_of 111 (by decide +kernel) rfl
theorem wd_113 : Cond.instanceMethod yX4_init ∈ tb := tb_of 113 (by decide +kernel) rfl
theorem wd_114 : Cond.code yX4_init cX4_init 1 none ∈ tb := tb_of 114 (by decide +kernel) rfl
theorem wd_115 : Cond.methodLink RX4 3 objectInit ∈ tb := tb_of 115 (by decide +kernel) rfl
theorem wd_116 : Cond.fieldLink RX4 9 "LoanPoints$Listing" "kinds" "[I" ∈ tb := tb_of 116 (by decide +kernel) rfl
theorem wd_120 : Cond.fieldLink RX4 15 "LoanPoints$Listing" "xs" "[I" ∈ tb := tb_of 120 (by decide +kernel) rfl
theorem wd_126 : Cond.fieldLink RX4 18 "LoanPoints$Listing" "places" "[I" ∈ tb := tb_of 126 (by decide +kernel) rfl
theorem wd_129 : Cond.fieldLink RX4 21 "LoanPoints$Listing" "targets" "[I" ∈ tb := tb_of 129 (by decide +kernel) rfl
theorem wd_133 : Cond.fieldLink RX4 24 "LoanPoints$Listing" "acts" "[I" ∈ tb := tb_of 133 (by decide +kernel) rfl
theorem wd_138 : Cond.fieldLink RX4 27 "LoanPoints$Listing" "owners" "[I" ∈ tb := tb_of 138 (by decide +kernel) rfl
theorem wd_143 : Cond.fieldLink RX4 30 "LoanPoints$Listing" "paths" "[I" ∈ tb := tb_of 143 (by decide +kernel) rfl
theorem wd_146 : Cond.fieldLink RX4 33 "LoanPoints$Listing" "lends" "[Z" ∈ tb := tb_of 146 (by decide +kernel) rfl
theorem wd_151 : Cond.fieldLink RX4 37 "LoanPoints$Listing" "goesThrough" "[Z" ∈ tb := tb_of 151 (by decide +kernel) rfl
theorem wd_156 : Cond.fieldLink RX4 40 "LoanPoints$Listing" "size" "I" ∈ tb := tb_of 156 (by decide +kernel) rfl
theorem wd_187 : Cond.classLink RX9 16 RX0 ∈ tb := tb_of 187 (by decide +kernel) rfl
theorem wd_188 : Cond.instantiable RX0 5 ∈ tb := tb_of 188 (by decide +kernel) rfl
theorem wd_189 : Cond.methodLink RX9 18 yX0_init ∈ tb := tb_of 189 (by decide +kernel) rfl
theorem wd_190 : Cond.instanceMethod yX0_init ∈ tb := tb_of 190 (by decide +kernel) rfl
theorem wd_191 : Cond.code yX0_init cX0_init 2 none ∈ tb := tb_of 191 (by decide +kernel) rfl
theorem wd_192 : Cond.methodLink RX0 1 objectInit ∈ tb := tb_of 192 (by decide +kernel) rfl
theorem wd_193 : Cond.classLink RX0 13 RX2 ∈ tb := tb_of 193 (by decide +kernel) rfl
theorem wd_194 : Cond.instantiable RX2 9 ∈ tb := tb_of 194 (by decide +kernel) rfl
theorem wd_196 : Cond.instanceMethod yX2_init ∈ tb := tb_of 196 (by decide +kernel) rfl
theorem wd_197 : Cond.code yX2_init cX2_init 1 none ∈ tb := tb_of 197 (by decide +kernel) rfl
theorem wd_198 : Cond.methodLink RX2 3 objectInit ∈ tb := tb_of 198 (by decide +kernel) rfl
theorem wd_199 : Cond.fieldLink RX2 9 "LoanPoints$Flow" "onward" "[I" ∈ tb := tb_of 199 (by decide +kernel) rfl
theorem wd_203 : Cond.fieldLink RX2 15 "LoanPoints$Flow" "aside" "[I" ∈ tb := tb_of 203 (by decide +kernel) rfl
theorem wd_207 : Cond.fieldLink RX2 18 "LoanPoints$Flow" "reads" "[I" ∈ tb := tb_of 207 (by decide +kernel) rfl
theorem wd_209 : Cond.fieldLink RX2 21 "LoanPoints$Flow" "writes" "[I" ∈ tb := tb_of 209 (by decide +kernel) rfl
theorem wd_211 : Cond.fieldLink RX2 24 "LoanPoints$Flow" "liveVariables" "[I" ∈ tb := tb_of 211 (by decide +kernel) rfl
theorem wd_212 : Cond.fieldLink RX2 27 "LoanPoints$Flow" "sources" "[I" ∈ tb := tb_of 212 (by decide +kernel) rfl
theorem wd_213 : Cond.fieldLink RX2 30 "LoanPoints$Flow" "regions" "[I" ∈ tb := tb_of 213 (by decide +kernel) rfl
theorem wd_216 : Cond.fieldLink RX2 33 "LoanPoints$Flow" "size" "I" ∈ tb := tb_of 216 (by decide +kernel) rfl
theorem wd_217 : Cond.fieldLink RX2 37 "LoanPoints$Flow" "reachedPoints" "I" ∈ tb := tb_of 217 (by decide +kernel) rfl
theorem wd_241 : Cond.classLink RX0 20 RX3 ∈ tb := tb_of 241 (by decide +kernel) rfl
theorem wd_242 : Cond.instantiable RX3 14 ∈ tb := tb_of 242 (by decide +kernel) rfl
theorem wd_244 : Cond.instanceMethod yX3_init ∈ tb := tb_of 244 (by decide +kernel) rfl
theorem wd_245 : Cond.code yX3_init cX3_init 1 none ∈ tb := tb_of 245 (by decide +kernel) rfl
theorem wd_246 : Cond.methodLink RX3 3 objectInit ∈ tb := tb_of 246 (by decide +kernel) rfl
theorem wd_247 : Cond.fieldLink RX3 9 "LoanPoints$Lending" "allLoans" "I" ∈ tb := tb_of 247 (by decide +kernel) rfl
theorem wd_249 : Cond.fieldLink RX3 15 "LoanPoints$Lending" "shareLoans" "I" ∈ tb := tb_of 249 (by decide +kernel) rfl
theorem wd_251 : Cond.fieldLink RX3 18 "LoanPoints$Lending" "takeLoans" "I" ∈ tb := tb_of 251 (by decide +kernel) rfl
theorem wd_253 : Cond.fieldLink RX3 21 "LoanPoints$Lending" "planLoans" "I" ∈ tb := tb_of 253 (by decide +kernel) rfl
theorem wd_254 : Cond.fieldLink RX3 24 "LoanPoints$Lending" "held" "[I" ∈ tb := tb_of 254 (by decide +kernel) rfl
theorem wd_257 : Cond.fieldLink RX3 28 "LoanPoints$Lending" "behind" "[I" ∈ tb := tb_of 257 (by decide +kernel) rfl
theorem wd_258 : Cond.fieldLink RX3 31 "LoanPoints$Lending" "changed" "I" ∈ tb := tb_of 258 (by decide +kernel) rfl
theorem wd_259 : Cond.fieldLink RX3 34 "LoanPoints$Lending" "scoped" "[I" ∈ tb := tb_of 259 (by decide +kernel) rfl
theorem wd_262 : Cond.fieldLink RX3 37 "LoanPoints$Lending" "activated" "[I" ∈ tb := tb_of 262 (by decide +kernel) rfl
theorem wd_265 : Cond.fieldLink RX3 40 "LoanPoints$Lending" "kills" "[I" ∈ tb := tb_of 265 (by decide +kernel) rfl
theorem wd_266 : Cond.fieldLink RX3 43 "LoanPoints$Lending" "within" "[I" ∈ tb := tb_of 266 (by decide +kernel) rfl
theorem wd_267 : Cond.fieldLink RX3 46 "LoanPoints$Lending" "wakes" "[I" ∈ tb := tb_of 267 (by decide +kernel) rfl
theorem wd_269 : Cond.fieldLink RX3 49 "LoanPoints$Lending" "throughOwner" "[I" ∈ tb := tb_of 269 (by decide +kernel) rfl
theorem wd_270 : Cond.fieldLink RX3 52 "LoanPoints$Lending" "byX" "[I" ∈ tb := tb_of 270 (by decide +kernel) rfl
theorem wd_300 : Cond.classLink RX0 27 RX1 ∈ tb := tb_of 300 (by decide +kernel) rfl
theorem wd_301 : Cond.instantiable RX1 3 ∈ tb := tb_of 301 (by decide +kernel) rfl
theorem wd_303 : Cond.instanceMethod yX1_init ∈ tb := tb_of 303 (by decide +kernel) rfl
theorem wd_304 : Cond.code yX1_init cX1_init 1 none ∈ tb := tb_of 304 (by decide +kernel) rfl
theorem wd_305 : Cond.methodLink RX1 3 objectInit ∈ tb := tb_of 305 (by decide +kernel) rfl
theorem wd_306 : Cond.fieldLink RX1 9 "LoanPoints$Faults" "byPoint" "[I" ∈ tb := tb_of 306 (by decide +kernel) rfl
theorem wd_307 : Cond.fieldLink RX1 15 "LoanPoints$Faults" "size" "I" ∈ tb := tb_of 307 (by decide +kernel) rfl
theorem wd_308 : Cond.fieldLink RX1 19 "LoanPoints$Faults" "total" "I" ∈ tb := tb_of 308 (by decide +kernel) rfl
theorem wd_318 : Cond.fieldLink RX0 34 "LoanPoints$Check" "listing" "LLoanPoints$Listing;" ∈ tb := tb_of 318 (by decide +kernel) rfl
theorem wd_319 : Cond.fieldLink RX0 7 "LoanPoints$Check" "known" "Z" ∈ tb := tb_of 319 (by decide +kernel) rfl
theorem wd_320 : Cond.fieldLink RX0 16 "LoanPoints$Check" "flow" "LLoanPoints$Flow;" ∈ tb := tb_of 320 (by decide +kernel) rfl
theorem wd_324 : Cond.fieldLink RX0 23 "LoanPoints$Check" "lending" "LLoanPoints$Lending;" ∈ tb := tb_of 324 (by decide +kernel) rfl
theorem wd_327 : Cond.fieldLink RX0 30 "LoanPoints$Check" "faults" "LLoanPoints$Faults;" ∈ tb := tb_of 327 (by decide +kernel) rfl
theorem wd_342 : Cond.classLink RX9 25 RX5 ∈ tb := tb_of 342 (by decide +kernel) rfl
theorem wd_343 : Cond.instantiable RX5 8 ∈ tb := tb_of 343 (by decide +kernel) rfl
theorem wd_344 : Cond.methodLink RX9 27 yX5_init ∈ tb := tb_of 344 (by decide +kernel) rfl
theorem wd_345 : Cond.instanceMethod yX5_init ∈ tb := tb_of 345 (by decide +kernel) rfl
theorem wd_346 : Cond.code yX5_init cX5_init 3 none ∈ tb := tb_of 346 (by decide +kernel) rfl
theorem wd_347 : Cond.methodLink RX5 3 objectInit ∈ tb := tb_of 347 (by decide +kernel) rfl
theorem wd_348 : Cond.classLink RX5 36 RX0 ∈ tb := tb_of 348 (by decide +kernel) rfl
theorem wd_349 : Cond.methodLink RX5 38 yX0_init ∈ tb := tb_of 349 (by decide +kernel) rfl
theorem wd_350 : Cond.fieldLink RX5 28 "LoanPoints$Plans" "listing" "LLoanPoints$Listing;" ∈ tb := tb_of 350 (by decide +kernel) rfl
theorem wd_351 : Cond.fieldLink RX5 32 "LoanPoints$Plans" "check" "LLoanPoints$Check;" ∈ tb := tb_of 351 (by decide +kernel) rfl
theorem wd_352 : Cond.fieldLink RX5 41 "LoanPoints$Plans" "trial" "LLoanPoints$Check;" ∈ tb := tb_of 352 (by decide +kernel) rfl
theorem wd_353 : Cond.fieldLink RX5 9 "LoanPoints$Plans" "mendKnown" "Z" ∈ tb := tb_of 353 (by decide +kernel) rfl
theorem wd_354 : Cond.fieldLink RX5 15 "LoanPoints$Plans" "softKnown" "Z" ∈ tb := tb_of 354 (by decide +kernel) rfl
theorem wd_355 : Cond.fieldLink RX5 18 "LoanPoints$Plans" "mendPoint" "I" ∈ tb := tb_of 355 (by decide +kernel) rfl
theorem wd_357 : Cond.fieldLink RX5 22 "LoanPoints$Plans" "mendErrors" "I" ∈ tb := tb_of 357 (by decide +kernel) rfl
theorem wd_359 : Cond.fieldLink RX5 25 "LoanPoints$Plans" "softPoints" "I" ∈ tb := tb_of 359 (by decide +kernel) rfl
theorem wd_378 : Cond.classLink RX9 34 RX7 ∈ tb := tb_of 378 (by decide +kernel) rfl
theorem wd_379 : Cond.instantiable RX7 6 ∈ tb := tb_of 379 (by decide +kernel) rfl
theorem wd_380 : Cond.methodLink RX9 36 yX7_init ∈ tb := tb_of 380 (by decide +kernel) rfl
theorem wd_381 : Cond.instanceMethod yX7_init ∈ tb := tb_of 381 (by decide +kernel) rfl
theorem wd_382 : Cond.code yX7_init cX7_init 3 none ∈ tb := tb_of 382 (by decide +kernel) rfl
theorem wd_383 : Cond.methodLink RX7 3 objectInit ∈ tb := tb_of 383 (by decide +kernel) rfl
theorem wd_384 : Cond.fieldLink RX7 25 "LoanPoints$Trail" "listing" "LLoanPoints$Listing;" ∈ tb := tb_of 384 (by decide +kernel) rfl
theorem wd_385 : Cond.fieldLink RX7 29 "LoanPoints$Trail" "check" "LLoanPoints$Check;" ∈ tb := tb_of 385 (by decide +kernel) rfl
theorem wd_386 : Cond.fieldLink RX7 9 "LoanPoints$Trail" "distances" "[I" ∈ tb := tb_of 386 (by decide +kernel) rfl
theorem wd_387 : Cond.fieldLink RX7 15 "LoanPoints$Trail" "shown" "I" ∈ tb := tb_of 387 (by decide +kernel) rfl
theorem wd_388 : Cond.fieldLink RX7 19 "LoanPoints$Trail" "points" "[I" ∈ tb := tb_of 388 (by decide +kernel) rfl
theorem wd_390 : Cond.fieldLink RX7 22 "LoanPoints$Trail" "length" "I" ∈ tb := tb_of 390 (by decide +kernel) rfl
theorem wd_405 : Cond.classLink RX9 41 RX8 ∈ tb := tb_of 405 (by decide +kernel) rfl
theorem wd_406 : Cond.instantiable RX8 16 ∈ tb := tb_of 406 (by decide +kernel) rfl
theorem wd_407 : Cond.methodLink RX9 43 yX8_init ∈ tb := tb_of 407 (by decide +kernel) rfl
theorem wd_408 : Cond.instanceMethod yX8_init ∈ tb := tb_of 408 (by decide +kernel) rfl
theorem wd_409 : Cond.code yX8_init cX8_init 2 none ∈ tb := tb_of 409 (by decide +kernel) rfl
theorem wd_410 : Cond.methodLink RX8 3 objectInit ∈ tb := tb_of 410 (by decide +kernel) rfl
theorem wd_411 : Cond.fieldLink RX8 60 "LoanPoints$Walk" "listing" "LLoanPoints$Listing;" ∈ tb := tb_of 411 (by decide +kernel) rfl
theorem wd_412 : Cond.fieldLink RX8 9 "LoanPoints$Walk" "kinds" "[I" ∈ tb := tb_of 412 (by decide +kernel) rfl
theorem wd_413 : Cond.fieldLink RX8 15 "LoanPoints$Walk" "spots" "[I" ∈ tb := tb_of 413 (by decide +kernel) rfl
theorem wd_414 : Cond.fieldLink RX8 18 "LoanPoints$Walk" "froms" "[I" ∈ tb := tb_of 414 (by decide +kernel) rfl
theorem wd_415 : Cond.fieldLink RX8 21 "LoanPoints$Walk" "stale" "[Z" ∈ tb := tb_of 415 (by decide +kernel) rfl
theorem wd_416 : Cond.fieldLink RX8 25 "LoanPoints$Walk" "awake" "[Z" ∈ tb := tb_of 416 (by decide +kernel) rfl
theorem wd_417 : Cond.fieldLink RX8 28 "LoanPoints$Walk" "spared" "[I" ∈ tb := tb_of 417 (by decide +kernel) rfl
theorem wd_418 : Cond.fieldLink RX8 31 "LoanPoints$Walk" "made" "I" ∈ tb := tb_of 418 (by decide +kernel) rfl
theorem wd_419 : Cond.fieldLink RX8 35 "LoanPoints$Walk" "accesses" "I" ∈ tb := tb_of 419 (by decide +kernel) rfl
theorem wd_420 : Cond.fieldLink RX8 38 "LoanPoints$Walk" "held" "[I" ∈ tb := tb_of 420 (by decide +kernel) rfl
theorem wd_421 : Cond.fieldLink RX8 41 "LoanPoints$Walk" "known" "Z" ∈ tb := tb_of 421 (by decide +kernel) rfl
theorem wd_422 : Cond.fieldLink RX8 45 "LoanPoints$Walk" "knownChoices" "I" ∈ tb := tb_of 422 (by decide +kernel) rfl
theorem wd_423 : Cond.fieldLink RX8 48 "LoanPoints$Walk" "knownSteps" "I" ∈ tb := tb_of 423 (by decide +kernel) rfl
theorem wd_424 : Cond.fieldLink RX8 51 "LoanPoints$Walk" "badPoint" "I" ∈ tb := tb_of 424 (by decide +kernel) rfl
theorem wd_426 : Cond.fieldLink RX8 54 "LoanPoints$Walk" "why" "I" ∈ tb := tb_of 426 (by decide +kernel) rfl
theorem wd_428 : Cond.fieldLink RX8 57 "LoanPoints$Walk" "done" "I" ∈ tb := tb_of 428 (by decide +kernel) rfl
theorem wd_463 : Cond.classLink RX9 48 RX6 ∈ tb := tb_of 463 (by decide +kernel) rfl
theorem wd_465 : Cond.instantiable RX6 3 ∈ tb := tb_of 465 (by decide +kernel) rfl
theorem wd_467 : Cond.instanceMethod yX6_init ∈ tb := tb_of 467 (by decide +kernel) rfl
theorem wd_468 : Cond.code yX6_init cX6_init 1 none ∈ tb := tb_of 468 (by decide +kernel) rfl
theorem wd_469 : Cond.methodLink RX6 3 objectInit ∈ tb := tb_of 469 (by decide +kernel) rfl
theorem wd_470 : Cond.fieldLink RX6 9 "LoanPoints$Sheet" "items" "[I" ∈ tb := tb_of 470 (by decide +kernel) rfl
theorem wd_472 : Cond.fieldLink RX6 15 "LoanPoints$Sheet" "form" "I" ∈ tb := tb_of 472 (by decide +kernel) rfl
theorem wd_474 : Cond.fieldLink RX6 19 "LoanPoints$Sheet" "size" "I" ∈ tb := tb_of 474 (by decide +kernel) rfl
theorem wd_483 : Cond.fieldLink RX9 12 "LoanPoints" "listing" "LLoanPoints$Listing;" ∈ tb := tb_of 483 (by decide +kernel) rfl
theorem wd_484 : Cond.fieldLink RX9 21 "LoanPoints" "check" "LLoanPoints$Check;" ∈ tb := tb_of 484 (by decide +kernel) rfl
theorem wd_485 : Cond.fieldLink RX9 30 "LoanPoints" "plans" "LLoanPoints$Plans;" ∈ tb := tb_of 485 (by decide +kernel) rfl
theorem wd_486 : Cond.fieldLink RX9 37 "LoanPoints" "trail" "LLoanPoints$Trail;" ∈ tb := tb_of 486 (by decide +kernel) rfl
theorem wd_487 : Cond.fieldLink RX9 44 "LoanPoints" "walk" "LLoanPoints$Walk;" ∈ tb := tb_of 487 (by decide +kernel) rfl
theorem wd_488 : Cond.fieldLink RX9 50 "LoanPoints" "sheets" "[LLoanPoints$Sheet;" ∈ tb := tb_of 488 (by decide +kernel) rfl
theorem wd_489 : Cond.fieldLink RX9 54 "LoanPoints" "latestFinding" "I" ∈ tb := tb_of 489 (by decide +kernel) rfl
theorem wd_961 : Cond.methodLink RX10 1 objectInit ∈ tb := tb_of 961 (by decide +kernel) rfl
theorem wd_963 : Cond.fieldLink RX10 7 "LoanPointsModel" "kinds" "[I" ∈ tb := tb_of 963 (by decide +kernel) rfl
theorem wd_964 : Cond.fieldLink RX10 13 "LoanPointsModel" "xs" "[I" ∈ tb := tb_of 964 (by decide +kernel) rfl
theorem wd_965 : Cond.fieldLink RX10 16 "LoanPointsModel" "ps" "[I" ∈ tb := tb_of 965 (by decide +kernel) rfl
theorem wd_966 : Cond.fieldLink RX10 19 "LoanPointsModel" "targets" "[I" ∈ tb := tb_of 966 (by decide +kernel) rfl
theorem wd_969 : Cond.fieldLink RX10 22 "LoanPointsModel" "liveNow" "[I" ∈ tb := tb_of 969 (by decide +kernel) rfl
theorem wd_970 : Cond.fieldLink RX10 25 "LoanPointsModel" "regionNow" "[I" ∈ tb := tb_of 970 (by decide +kernel) rfl
theorem wd_971 : Cond.fieldLink RX10 28 "LoanPointsModel" "holding" "[I" ∈ tb := tb_of 971 (by decide +kernel) rfl
theorem wd_972 : Cond.fieldLink RX10 31 "LoanPointsModel" "scopeAt" "[I" ∈ tb := tb_of 972 (by decide +kernel) rfl
theorem wd_973 : Cond.fieldLink RX10 34 "LoanPointsModel" "activeAt" "[I" ∈ tb := tb_of 973 (by decide +kernel) rfl
theorem wd_975 : Cond.fieldLink RX10 37 "LoanPointsModel" "errorAt" "[I" ∈ tb := tb_of 975 (by decide +kernel) rfl
theorem wd_976 : Cond.fieldLink RX10 40 "LoanPointsModel" "errorKind" "[I" ∈ tb := tb_of 976 (by decide +kernel) rfl
theorem wd_977 : Cond.fieldLink RX10 43 "LoanPointsModel" "errorNumber" "[I" ∈ tb := tb_of 977 (by decide +kernel) rfl
theorem wd_978 : Cond.fieldLink RX10 46 "LoanPointsModel" "far" "[I" ∈ tb := tb_of 978 (by decide +kernel) rfl
theorem wd_980 : Cond.fieldLink RX10 49 "LoanPointsModel" "way" "[I" ∈ tb := tb_of 980 (by decide +kernel) rfl
theorem wd_982 : Cond.fieldLink RX10 52 "LoanPointsModel" "refKind" "[I" ∈ tb := tb_of 982 (by decide +kernel) rfl
theorem wd_983 : Cond.fieldLink RX10 55 "LoanPointsModel" "refVariable" "[I" ∈ tb := tb_of 983 (by decide +kernel) rfl
theorem wd_984 : Cond.fieldLink RX10 58 "LoanPointsModel" "refPart" "[I" ∈ tb := tb_of 984 (by decide +kernel) rfl
theorem wd_985 : Cond.fieldLink RX10 61 "LoanPointsModel" "refFrom" "[I" ∈ tb := tb_of 985 (by decide +kernel) rfl
theorem wd_986 : Cond.fieldLink RX10 64 "LoanPointsModel" "refFresh" "[I" ∈ tb := tb_of 986 (by decide +kernel) rfl
theorem wd_987 : Cond.fieldLink RX10 67 "LoanPointsModel" "refActive" "[I" ∈ tb := tb_of 987 (by decide +kernel) rfl
theorem wd_988 : Cond.fieldLink RX10 70 "LoanPointsModel" "referring" "[I" ∈ tb := tb_of 988 (by decide +kernel) rfl
theorem wd_992 : Cond.fieldLink RX10 73 "LoanPointsModel" "isThere" "[Z" ∈ tb := tb_of 992 (by decide +kernel) rfl
theorem wd_993 : Cond.fieldLink RX10 77 "LoanPointsModel" "forms" "[I" ∈ tb := tb_of 993 (by decide +kernel) rfl
theorem wd_994 : Cond.fieldLink RX10 80 "LoanPointsModel" "sizes" "[I" ∈ tb := tb_of 994 (by decide +kernel) rfl
theorem wd_995 : Cond.fieldLink RX10 83 "LoanPointsModel" "items" "[I" ∈ tb := tb_of 995 (by decide +kernel) rfl
theorem wd_996 : Cond.fieldLink RX10 86 "LoanPointsModel" "moved" "[I" ∈ tb := tb_of 996 (by decide +kernel) rfl
theorem df_X0 : ∀ j, j < 5 → defaultValue (tyX0 j) = vp_V [.null, .int 0, .null, .null, .null] j := by decide +kernel
theorem df_X1 : ∀ j, j < 3 → defaultValue (tyX1 j) = vp_V [.null, .int 0, .int 0] j := by decide +kernel
theorem df_X2 : ∀ j, j < 9 → defaultValue (tyX2 j) = vp_V [.null, .null, .null, .null, .null, .null, .null, .int 0, .int 0] j := by decide +kernel
theorem df_X3 : ∀ j, j < 14 → defaultValue (tyX3 j) = vp_V [.int 0, .int 0, .int 0, .int 0, .null, .null, .int 0, .null, .null, .null, .null, .null, .null, .null] j := by decide +kernel
theorem df_X4 : ∀ j, j < 10 → defaultValue (tyX4 j) = vp_V [.null, .null, .null, .null, .null, .null, .null, .null, .null, .int 0] j := by decide +kernel
theorem df_X5 : ∀ j, j < 8 → defaultValue (tyX5 j) = vp_V [.null, .null, .null, .int 0, .int 0, .int 0, .int 0, .int 0] j := by decide +kernel
theorem df_X6 : ∀ j, j < 3 → defaultValue (tyX6 j) = vp_V [.null, .int 0, .int 0] j := by decide +kernel
theorem df_X7 : ∀ j, j < 6 → defaultValue (tyX7 j) = vp_V [.null, .null, .null, .int 0, .null, .int 0] j := by decide +kernel
theorem df_X8 : ∀ j, j < 16 → defaultValue (tyX8 j) = vp_V [.null, .null, .null, .null, .null, .null, .null, .int 0, .int 0, .null, .int 0, .int 0, .int 0, .int 0, .int 0, .int 0] j := by decide +kernel
theorem df_X9 : ∀ j, j < 7 → defaultValue (tyX9 j) = vp_V [.null, .null, .null, .null, .null, .null, .int 0] j := by decide +kernel
theorem df_X10 : ∀ j, j < 36 → defaultValue (tyX10 j) = vp_V [.int 0, .null, .null, .null, .null, .int 0, .int 0, .null, .null, .null, .null, .null, .int 0, .null, .null, .null, .null, .int 0, .null, .int 0, .null, .null, .null, .null, .null, .null, .null, .int 0, .int 0, .int 0, .null, .null, .null, .null, .null, .int 0] j := by decide +kernel
theorem wd_aci : Cond.arrayClass .int ∈ tb := tb_of 185 (by decide +kernel) rfl
theorem wd_acz : Cond.arrayClass .boolean ∈ tb := tb_of 186 (by decide +kernel) rfl
section NA
variable {p : Program} {l : Launch} {e : Env} {R : Room} {s : State} {m : MethodId} {args : Array Value} {below : List Frame} {meth : Method} {c : Code} {H : Heap} {locs : List Loc} {cells slots : Nat} {Q : State → Prop}
variable {cc : ByteArray} {pc : Nat} {ls : Array Slot} {rest : List Value} {D : va_G} {A : Nat → Prop} {ws : va_W} {H0 : Heap} {ar : Nat → ClassId} {n : Int32} {N' : Nat}
theorem na_i (hexec : p.tables.exec = Jvm.exec) (hb : c.code = cc) (harr : (Cond.arrayClass .int).before args s = true) (hK : va_K D vwCl (sh_t ar) s) (hP : va_P D vwCl ws H) (hD : va_D A ws) (hS : va_S A H0 H locs) (hA : ∀ q, H0.size ≤ q → A q)
    (hn : ¬ n < 0) (hN : n.toNatClampNeg = N') (hbytes : N' * 4 ≤ 536870912) (hcells : cells + 1 ≤ R.cells) (hslots : slots + N' ≤ R.slots) (hdg : decode cc pc = .ok (.newarray .int, 2))
    (kk : ∀ (q : Nat) (H1 : Heap), va_P D vwCl (ws ++ [(q, .inl (ar 0, N', .inl (fun _ => 0)))]) H1 → va_D A (ws ++ [(q, .inl (ar 0, N', .inl (fun _ => 0)))]) → va_S A H0 H1 locs → W p l e R s m args below meth c H1 locs (cells + 1) (slots + N') Q (F0 m (pc + 2) ls (.ref q :: rest))) : W p l e R s m args below meth c H locs cells slots Q (F0 m pc ls (.int n :: rest)) := by
  refine va_newa (atype := .int) (ty := .int) hexec hb harr rfl hK hP hD hS hA (a0 := (N', .inl (fun _ => 0))) (fun cA => rfl) hn hN hbytes hcells hslots hdg (fun q cA H1 hK1 hP1 hD1 hS1 => ?_)
  have e1 : s.vm.findClass ("[" ++ (FieldType.int).toString) = some cA := (hK1.2 3 (cA, .int) rfl).2
  have e2 : s.vm.findClass ("[" ++ (FieldType.int).toString) = some (ar 0) := (hK.2 0 (ar 0, .int) rfl).2
  have e3 : cA = ar 0 := Option.some.inj (e1.symm.trans e2)
  subst e3
  exact kk q H1 hP1 hD1 hS1
theorem na_z (hexec : p.tables.exec = Jvm.exec) (hb : c.code = cc) (harr : (Cond.arrayClass .boolean).before args s = true) (hK : va_K D vwCl (sh_t ar) s) (hP : va_P D vwCl ws H) (hD : va_D A ws) (hS : va_S A H0 H locs) (hA : ∀ q, H0.size ≤ q → A q)
    (hn : ¬ n < 0) (hN : n.toNatClampNeg = N') (hbytes : N' * 1 ≤ 536870912) (hcells : cells + 1 ≤ R.cells) (hslots : slots + N' ≤ R.slots) (hdg : decode cc pc = .ok (.newarray .boolean, 2))
    (kk : ∀ (q : Nat) (H1 : Heap), va_P D vwCl (ws ++ [(q, .inl (ar 1, N', .inl (fun _ => 0)))]) H1 → va_D A (ws ++ [(q, .inl (ar 1, N', .inl (fun _ => 0)))]) → va_S A H0 H1 locs → W p l e R s m args below meth c H1 locs (cells + 1) (slots + N') Q (F0 m (pc + 2) ls (.ref q :: rest))) : W p l e R s m args below meth c H locs cells slots Q (F0 m pc ls (.int n :: rest)) := by
  refine va_newa (atype := .boolean) (ty := .boolean) hexec hb harr rfl hK hP hD hS hA (a0 := (N', .inl (fun _ => 0))) (fun cA => rfl) hn hN hbytes hcells hslots hdg (fun q cA H1 hK1 hP1 hD1 hS1 => ?_)
  have e1 : s.vm.findClass ("[" ++ (FieldType.boolean).toString) = some cA := (hK1.2 3 (cA, .boolean) rfl).2
  have e2 : s.vm.findClass ("[" ++ (FieldType.boolean).toString) = some (ar 1) := (hK.2 1 (ar 1, .boolean) rfl).2
  have e3 : cA = ar 1 := Option.some.inj (e1.symm.trans e2)
  subst e3
  exact kk q H1 hP1 hD1 hS1
theorem na_q {own : String} {index : Nat} (hexec : p.tables.exec = Jvm.exec) (hb : c.code = cc) (hown : s.vm.findClass own = some m.cls) (hclink : (Cond.classLink own index RX6).before args s = true) (hover : va_AO RX6 s) (hK : va_K D vwCl (sh_t ar) s) (hP : va_P D vwCl ws H) (hD : va_D A ws) (hS : va_S A H0 H locs) (hA : ∀ q, H0.size ≤ q → A q)
    (hn : ¬ n < 0) (hN : n.toNatClampNeg = N') (hbytes : N' * 4 ≤ 536870912) (hcells : cells + 1 ≤ R.cells) (hslots : slots + N' ≤ R.slots) (hdg : decode cc pc = .ok (.anewarray index, 3))
    (kk : ∀ (q : Nat) (H1 : Heap), va_P D vwCl (ws ++ [(q, .inl (ar 2, N', .inr (.inr (.inr (.inr (fun _ => none))))))]) H1 → va_D A (ws ++ [(q, .inl (ar 2, N', .inr (.inr (.inr (.inr (fun _ => none))))))]) → va_S A H0 H1 locs → W p l e R s m args below meth c H1 locs (cells + 1) (slots + N') Q (F0 m (pc + 3) ls (.ref q :: rest))) : W p l e R s m args below meth c H locs cells slots Q (F0 m pc ls (.int n :: rest)) := by
  refine va_newq hexec hb hown hclink hover hK hP hD hS hA hn hN hbytes hcells hslots hdg (fun q cA H1 hK1 hP1 hD1 hS1 => ?_)
  have e1 : s.vm.findClass ("[" ++ (FieldType.object RX6).toString) = some cA := by
    obtain ⟨-, -, -, -, -, -, z⟩ := hK1.2 3 (cA, .object RX6) rfl
    exact z
  have e2 : s.vm.findClass ("[" ++ (FieldType.object RX6).toString) = some (ar 2) := by
    obtain ⟨-, -, -, -, -, -, z⟩ := hK.2 2 (ar 2, .object RX6) rfl
    exact z
  have e3 : cA = ar 2 := Option.some.inj (e1.symm.trans e2)
  subst e3
  exact kk q H1 hP1 hD1 hS1
end NA
theorem dX4_init_0 : decode cX4_init 0 = .ok (.aload_n 0, 1) := by decide +kernel
theorem dX4_init_1 : decode cX4_init 1 = .ok (.invokespecial 3, 3) := by decide +kernel
theorem dX4_init_4 : decode cX4_init 4 = .ok (.aload_n 0, 1) := by decide +kernel
theorem dX4_init_5 : decode cX4_init 5 = .ok (.bipush 24, 2) := by decide +kernel
theorem dX4_init_7 : decode cX4_init 7 = .ok (.newarray .int, 2) := by decide +kernel
theorem dX4_init_9 : decode cX4_init 9 = .ok (.putfield 9, 3) := by decide +kernel
theorem dX4_init_12 : decode cX4_init 12 = .ok (.aload_n 0, 1) := by decide +kernel
theorem dX4_init_13 : decode cX4_init 13 = .ok (.bipush 24, 2) := by decide +kernel
theorem dX4_init_15 : decode cX4_init 15 = .ok (.newarray .int, 2) := by decide +kernel
theorem dX4_init_17 : decode cX4_init 17 = .ok (.putfield 15, 3) := by decide +kernel
theorem dX4_init_20 : decode cX4_init 20 = .ok (.aload_n 0, 1) := by decide +kernel
theorem dX4_init_21 : decode cX4_init 21 = .ok (.bipush 24, 2) := by decide +kernel
theorem dX4_init_23 : decode cX4_init 23 = .ok (.newarray .int, 2) := by decide +kernel
theorem dX4_init_25 : decode cX4_init 25 = .ok (.putfield 18, 3) := by decide +kernel
theorem dX4_init_28 : decode cX4_init 28 = .ok (.aload_n 0, 1) := by decide +kernel
theorem dX4_init_29 : decode cX4_init 29 = .ok (.bipush 24, 2) := by decide +kernel
theorem dX4_init_31 : decode cX4_init 31 = .ok (.newarray .int, 2) := by decide +kernel
theorem dX4_init_33 : decode cX4_init 33 = .ok (.putfield 21, 3) := by decide +kernel
theorem dX4_init_36 : decode cX4_init 36 = .ok (.aload_n 0, 1) := by decide +kernel
theorem dX4_init_37 : decode cX4_init 37 = .ok (.bipush 24, 2) := by decide +kernel
theorem dX4_init_39 : decode cX4_init 39 = .ok (.newarray .int, 2) := by decide +kernel
theorem dX4_init_41 : decode cX4_init 41 = .ok (.putfield 24, 3) := by decide +kernel
theorem dX4_init_44 : decode cX4_init 44 = .ok (.aload_n 0, 1) := by decide +kernel
theorem dX4_init_45 : decode cX4_init 45 = .ok (.bipush 24, 2) := by decide +kernel
theorem dX4_init_47 : decode cX4_init 47 = .ok (.newarray .int, 2) := by decide +kernel
theorem dX4_init_49 : decode cX4_init 49 = .ok (.putfield 27, 3) := by decide +kernel
theorem dX4_init_52 : decode cX4_init 52 = .ok (.aload_n 0, 1) := by decide +kernel
theorem dX4_init_53 : decode cX4_init 53 = .ok (.bipush 24, 2) := by decide +kernel
theorem dX4_init_55 : decode cX4_init 55 = .ok (.newarray .int, 2) := by decide +kernel
theorem dX4_init_57 : decode cX4_init 57 = .ok (.putfield 30, 3) := by decide +kernel
theorem dX4_init_60 : decode cX4_init 60 = .ok (.aload_n 0, 1) := by decide +kernel
theorem dX4_init_61 : decode cX4_init 61 = .ok (.bipush 24, 2) := by decide +kernel
theorem dX4_init_63 : decode cX4_init 63 = .ok (.newarray .boolean, 2) := by decide +kernel
theorem dX4_init_65 : decode cX4_init 65 = .ok (.putfield 33, 3) := by decide +kernel
theorem dX4_init_68 : decode cX4_init 68 = .ok (.aload_n 0, 1) := by decide +kernel
theorem dX4_init_69 : decode cX4_init 69 = .ok (.bipush 24, 2) := by decide +kernel
theorem dX4_init_71 : decode cX4_init 71 = .ok (.newarray .boolean, 2) := by decide +kernel
theorem dX4_init_73 : decode cX4_init 73 = .ok (.putfield 37, 3) := by decide +kernel
theorem dX4_init_76 : decode cX4_init 76 = .ok (.aload_n 0, 1) := by decide +kernel
theorem dX4_init_77 : decode cX4_init 77 = .ok (.iconst 0, 1) := by decide +kernel
theorem dX4_init_78 : decode cX4_init 78 = .ok (.putfield 40, 3) := by decide +kernel
theorem dX4_init_81 : decode cX4_init 81 = .ok (.return_, 1) := by decide +kernel
abbrev wi_X4 (ar : Nat → ClassId) (h0 : Nat) (q : Nat → Nat) : va_W := [(h0, .inr (4, [.ref (q 0), .ref (q 1), .ref (q 2), .ref (q 3), .ref (q 4), .ref (q 5), .ref (q 6), .ref (q 7), .ref (q 8), .int (0 : Int32)])), ((q 0), .inl (ar 0, 24, .inl (fun _ => 0))), ((q 1), .inl (ar 0, 24, .inl (fun _ => 0))), ((q 2), .inl (ar 0, 24, .inl (fun _ => 0))), ((q 3), .inl (ar 0, 24, .inl (fun _ => 0))), ((q 4), .inl (ar 0, 24, .inl (fun _ => 0))), ((q 5), .inl (ar 0, 24, .inl (fun _ => 0))), ((q 6), .inl (ar 0, 24, .inl (fun _ => 0))), ((q 7), .inl (ar 1, 24, .inl (fun _ => 0))), ((q 8), .inl (ar 1, 24, .inl (fun _ => 0)))]
set_option maxRecDepth 100000 in
set_option maxHeartbeats 8000000 in
theorem ci_X4 (l : Launch) (D : va_G) (ar : Nat → ClassId) (h0 : Nat) (sz : Nat) : Met l yX4_init (.code yX4_init cX4_init 1 none :: tb) ({ frames := 1, cells := 9, slots := 216, locals := 20 } : Room) (va_Pc [.ref h0] (fun U => U.heap.size = sz ∧ va_P D vwCl [(h0, .inr (4, [.null, .null, .null, .null, .null, .null, .null, .null, .null, .int 0]))] U.heap ∧ va_K D vwCl (sh_t ar) U ∧ va_D (fun _ => True) [(h0, .inr (4, [.null, .null, .null, .null, .null, .null, .null, .null, .null, .int 0]))] ∧ nsOk U ∧ va_AO RX6 U)) (va_Qv (fun _ : Nat → Nat => True) (fun q t => va_P D vwCl (wi_X4 ar h0  q) t.heap ∧ va_D (va_A [(h0, .inr (4, [.null, .null, .null, .null, .null, .null, .null, .null, .null, .int 0]))] sz) (wi_X4 ar h0  q)) (va_A [(h0, .inr (4, [.null, .null, .null, .null, .null, .null, .null, .null, .null, .int 0]))] sz)) 9 216 (va_A [(h0, .inr (4, [.null, .null, .null, .null, .null, .null, .null, .null, .null, .int 0]))] sz) := by
  refine Met.ofW (cc := cX4_init) (maxL := 1) (ret := none) (by decide) rfl ?_
  intro p e s m args below meth c s₁ B hml hv
  obtain ⟨rfl, hsz, hP, hK, hD0, hN, hAO⟩ := hv
  have hx := B.exec
  have hb := B.bytes
  have hr := B.returns
  have hts : ∀ w ∈ tb, w.before _ s = true := fun w hw => atoms_spec (ws := .code yX4_init cX4_init 1 none :: tb) B.pre w (List.mem_cons_of_mem _ hw)
  have hown : s.vm.findClass RX4 = some m.cls := findClass_of_methodNamed B.named
  have hlocks := B.notSynchronized
  have hin : meth.name = "<init>" := (name_of_methodNamed B.named B.method).1
  subst hsz
  have hD := hD0.self (sz := s.heap.size)
  generalize hAe : va_A [(h0, .inr (4, [.null, .null, .null, .null, .null, .null, .null, .null, .null, .int 0]))] s.heap.size = A at hD ⊢
  have hA : ∀ q : Nat, s.heap.size ≤ q → A q := fun q h => by rw [← hAe]; exact Or.inr h
  have hS : va_S A s.heap s.heap [] := va_S.rf
  have hl := lv_entry ([.ref h0]) (n := 1) (Nat.le_of_ble_eq_true rfl)
  rw [lg_entry_eq]
  generalize (lg_sl ([.ref h0]) ++ List.replicate (1 - (lg_sl ([.ref h0])).length) Slot.unset).toArray = ls at hl ⊢
  have hl : lv_has ls 1 [(0, .ref h0)] := hl
  refine lv_aload_n hx hb dX4_init_0 rfl (lv_at hl 0 rfl) ?_
  refine W.objInit hx hb hown (hts _ wd_115) (hts _ wd_108) (hts _ wd_109) rfl (by rw [hml]; exact hl.1) rfl dX4_init_1 (Nat.le_of_ble_eq_true rfl) (Nat.le_of_ble_eq_true rfl) ?_
  refine W.eq (g2 := F0 m 4 ls []) rfl ?_
  refine lv_aload_n hx hb dX4_init_4 rfl (lv_at hl 0 rfl) ?_
  refine lv_bipush (v := (24 : Int32)) hx hb dX4_init_5 (by decide) ?_
  refine na_i (N' := 24) hx hb (hts _ wd_aci) hK hP hD hS hA (by decide) (by decide) (by decide) (Nat.le_of_ble_eq_true rfl) (Nat.le_of_ble_eq_true rfl) dX4_init_7 (fun q1 H hP hD hS => ?_)
  have hP : va_P D vwCl [(h0, .inr (4, [.null, .null, .null, .null, .null, .null, .null, .null, .null, .int 0])), (q1, .inl (ar 0, 24, .inl (fun _ => 0)))] H := hP
  have hD : va_D A [(h0, .inr (4, [.null, .null, .null, .null, .null, .null, .null, .null, .null, .int 0])), (q1, .inl (ar 0, 24, .inl (fun _ => 0)))] := hD
  refine va_putF (D := D) (ci := 4) (v := .ref q1) (ty := (.array .int)) (C := RX4) (T := TX4) (N := 10) hx hb hts in_X4 tyX4 tyX4_ok nmX4 hown hK hP hD hS 0 rfl rfl 0 (by decide) (hts _ wd_116) (fun _ h9 => h9) rfl hin rfl (by decide +kernel) rfl rfl (Nat.le_of_ble_eq_true rfl) dX4_init_9 (fun H locs hP hD hS => ?_)
  have hP : va_P D vwCl [(h0, .inr (4, [.ref q1, .null, .null, .null, .null, .null, .null, .null, .null, .int 0])), (q1, .inl (ar 0, 24, .inl (fun _ => 0)))] H := hP
  have hD : va_D A [(h0, .inr (4, [.ref q1, .null, .null, .null, .null, .null, .null, .null, .null, .int 0])), (q1, .inl (ar 0, 24, .inl (fun _ => 0)))] := hD
  refine lv_aload_n hx hb dX4_init_12 rfl (lv_at hl 0 rfl) ?_
  refine lv_bipush (v := (24 : Int32)) hx hb dX4_init_13 (by decide) ?_
  refine na_i (N' := 24) hx hb (hts _ wd_aci) hK hP hD hS hA (by decide) (by decide) (by decide) (Nat.le_of_ble_eq_true rfl) (Nat.le_of_ble_eq_true rfl) dX4_init_15 (fun q2 H hP hD hS => ?_)
  have hP : va_P D vwCl [(h0, .inr (4, [.ref q1, .null, .null, .null, .null, .null, .null, .null, .null, .int 0])), (q1, .inl (ar 0, 24, .inl (fun _ => 0))), (q2, .inl (ar 0, 24, .inl (fun _ => 0)))] H := hP
  have hD : va_D A [(h0, .inr (4, [.ref q1, .null, .null, .null, .null, .null, .null, .null, .null, .int 0])), (q1, .inl (ar 0, 24, .inl (fun _ => 0))), (q2, .inl (ar 0, 24, .inl (fun _ => 0)))] := hD
  refine va_putF (D := D) (ci := 4) (v := .ref q2) (ty := (.array .int)) (C := RX4) (T := TX4) (N := 10) hx hb hts in_X4 tyX4 tyX4_ok nmX4 hown hK hP hD hS 0 rfl rfl 1 (by decide) (hts _ wd_120) (fun _ h9 => h9) rfl hin rfl (by decide +kernel) rfl rfl (Nat.le_of_ble_eq_true rfl) dX4_init_17 (fun H locs hP hD hS => ?_)
  have hP : va_P D vwCl [(h0, .inr (4, [.ref q1, .ref q2, .null, .null, .null, .null, .null, .null, .null, .int 0])), (q1, .inl (ar 0, 24, .inl (fun _ => 0))), (q2, .inl (ar 0, 24, .inl (fun _ => 0)))] H := hP
  have hD : va_D A [(h0, .inr (4, [.ref q1, .ref q2, .null, .null, .null, .null, .null, .null, .null, .int 0])), (q1, .inl (ar 0, 24, .inl (fun _ => 0))), (q2, .inl (ar 0, 24, .inl (fun _ => 0)))] := hD
  refine lv_aload_n hx hb dX4_init_20 rfl (lv_at hl 0 rfl) ?_
  refine lv_bipush (v := (24 : Int32)) hx hb dX4_init_21 (by decide) ?_
  refine na_i (N' := 24) hx hb (hts _ wd_aci) hK hP hD hS hA (by decide) (by decide) (by decide) (Nat.le_of_ble_eq_true rfl) (Nat.le_of_ble_eq_true rfl) dX4_init_23 (fun q3 H hP hD hS => ?_)
  have hP : va_P D vwCl [(h0, .inr (4, [.ref q1, .ref q2, .null, .null, .null, .null, .null, .null, .null, .int 0])), (q1, .inl (ar 0, 24, .inl (fun _ => 0))), (q2, .inl (ar 0, 24, .inl (fun _ => 0))), (q3, .inl (ar 0, 24, .inl (fun _ => 0)))] H := hP
  have hD : va_D A [(h0, .inr (4, [.ref q1, .ref q2, .null, .null, .null, .null, .null, .null, .null, .int 0])), (q1, .inl (ar 0, 24, .inl (fun _ => 0))), (q2, .inl (ar 0, 24, .inl (fun _ => 0))), (q3, .inl (ar 0, 24, .inl (fun _ => 0)))] := hD
  refine va_putF (D := D) (ci := 4) (v := .ref q3) (ty := (.array .int)) (C := RX4) (T := TX4) (N := 10) hx hb hts in_X4 tyX4 tyX4_ok nmX4 hown hK hP hD hS 0 rfl rfl 2 (by decide) (hts _ wd_126) (fun _ h9 => h9) rfl hin rfl (by decide +kernel) rfl rfl (Nat.le_of_ble_eq_true rfl) dX4_init_25 (fun H locs hP hD hS => ?_)
  have hP : va_P D vwCl [(h0, .inr (4, [.ref q1, .ref q2, .ref q3, .null, .null, .null, .null, .null, .null, .int 0])), (q1, .inl (ar 0, 24, .inl (fun _ => 0))), (q2, .inl (ar 0, 24, .inl (fun _ => 0))), (q3, .inl (ar 0, 24, .inl (fun _ => 0)))] H := hP
  have hD : va_D A [(h0, .inr (4, [.ref q1, .ref q2, .ref q3, .null, .null, .null, .null, .null, .null, .int 0])), (q1, .inl (ar 0, 24, .inl (fun _ => 0))), (q2, .inl (ar 0, 24, .inl (fun _ => 0))), (q3, .inl (ar 0, 24, .inl (fun _ => 0)))] := hD
  refine lv_aload_n hx hb dX4_init_28 rfl (lv_at hl 0 rfl) ?_
  refine lv_bipush (v := (24 : Int32)) hx hb dX4_init_29 (by decide) ?_
  refine na_i (N' := 24) hx hb (hts _ wd_aci) hK hP hD hS hA (by decide) (by decide) (by decide) (Nat.le_of_ble_eq_true rfl) (Nat.le_of_ble_eq_true rfl) dX4_init_31 (fun q4 H hP hD hS => ?_)
  have hP : va_P D vwCl [(h0, .inr (4, [.ref q1, .ref q2, .ref q3, .null, .null, .null, .null, .null, .null, .int 0])), (q1, .inl (ar 0, 24, .inl (fun _ => 0))), (q2, .inl (ar 0, 24, .inl (fun _ => 0))), (q3, .inl (ar 0, 24, .inl (fun _ => 0))), (q4, .inl (ar 0, 24, .inl (fun _ => 0)))] H := hP
  have hD : va_D A [(h0, .inr (4, [.ref q1, .ref q2, .ref q3, .null, .null, .null, .null, .null, .null, .int 0])), (q1, .inl (ar 0, 24, .inl (fun _ => 0))), (q2, .inl (ar 0, 24, .inl (fun _ => 0))), (q3, .inl (ar 0, 24, .inl (fun _ => 0))), (q4, .inl (ar 0, 24, .inl (fun _ => 0)))] := hD
  refine va_putF (D := D) (ci := 4) (v := .ref q4) (ty := (.array .int)) (C := RX4) (T := TX4) (N := 10) hx hb hts in_X4 tyX4 tyX4_ok nmX4 hown hK hP hD hS 0 rfl rfl 3 (by decide) (hts _ wd_129) (fun _ h9 => h9) rfl hin rfl (by decide +kernel) rfl rfl (Nat.le_of_ble_eq_true rfl) dX4_init_33 (fun H locs hP hD hS => ?_)
  have hP : va_P D vwCl [(h0, .inr (4, [.ref q1, .ref q2, .ref q3, .ref q4, .null, .null, .null, .null, .null, .int 0])), (q1, .inl (ar 0, 24, .inl (fun _ => 0))), (q2, .inl (ar 0, 24, .inl (fun _ => 0))), (q3, .inl (ar 0, 24, .inl (fun _ => 0))), (q4, .inl (ar 0, 24, .inl (fun _ => 0)))] H := hP
  have hD : va_D A [(h0, .inr (4, [.ref q1, .ref q2, .ref q3, .ref q4, .null, .null, .null, .null, .null, .int 0])), (q1, .inl (ar 0, 24, .inl (fun _ => 0))), (q2, .inl (ar 0, 24, .inl (fun _ => 0))), (q3, .inl (ar 0, 24, .inl (fun _ => 0))), (q4, .inl (ar 0, 24, .inl (fun _ => 0)))] := hD
  refine lv_aload_n hx hb dX4_init_36 rfl (lv_at hl 0 rfl) ?_
  refine lv_bipush (v := (24 : Int32)) hx hb dX4_init_37 (by decide) ?_
  refine na_i (N' := 24) hx hb (hts _ wd_aci) hK hP hD hS hA (by decide) (by decide) (by decide) (Nat.le_of_ble_eq_true rfl) (Nat.le_of_ble_eq_true rfl) dX4_init_39 (fun q5 H hP hD hS => ?_)
  have hP : va_P D vwCl [(h0, .inr (4, [.ref q1, .ref q2, .ref q3, .ref q4, .null, .null, .null, .null, .null, .int 0])), (q1, .inl (ar 0, 24, .inl (fun _ => 0))), (q2, .inl (ar 0, 24, .inl (fun _ => 0))), (q3, .inl (ar 0, 24, .inl (fun _ => 0))), (q4, .inl (ar 0, 24, .inl (fun _ => 0))), (q5, .inl (ar 0, 24, .inl (fun _ => 0)))] H := hP
  have hD : va_D A [(h0, .inr (4, [.ref q1, .ref q2, .ref q3, .ref q4, .null, .null, .null, .null, .null, .int 0])), (q1, .inl (ar 0, 24, .inl (fun _ => 0))), (q2, .inl (ar 0, 24, .inl (fun _ => 0))), (q3, .inl (ar 0, 24, .inl (fun _ => 0))), (q4, .inl (ar 0, 24, .inl (fun _ => 0))), (q5, .inl (ar 0, 24, .inl (fun _ => 0)))] := hD
  refine va_putF (D := D) (ci := 4) (v := .ref q5) (ty := (.array .int)) (C := RX4) (T := TX4) (N := 10) hx hb hts in_X4 tyX4 tyX4_ok nmX4 hown hK hP hD hS 0 rfl rfl 4 (by decide) (hts _ wd_133) (fun _ h9 => h9) rfl hin rfl (by decide +kernel) rfl rfl (Nat.le_of_ble_eq_true rfl) dX4_init_41 (fun H locs hP hD hS => ?_)
  have hP : va_P D vwCl [(h0, .inr (4, [.ref q1, .ref q2, .ref q3, .ref q4, .ref q5, .null, .null, .null, .null, .int 0])), (q1, .inl (ar 0, 24, .inl (fun _ => 0))), (q2, .inl (ar 0, 24, .inl (fun _ => 0))), (q3, .inl (ar 0, 24, .inl (fun _ => 0))), (q4, .inl (ar 0, 24, .inl (fun _ => 0))), (q5, .inl (ar 0, 24, .inl (fun _ => 0)))] H := hP
  have hD : va_D A [(h0, .inr (4, [.ref q1, .ref q2, .ref q3, .ref q4, .ref q5, .null, .null, .null, .null, .int 0])), (q1, .inl (ar 0, 24, .inl (fun _ => 0))), (q2, .inl (ar 0, 24, .inl (fun _ => 0))), (q3, .inl (ar 0, 24, .inl (fun _ => 0))), (q4, .inl (ar 0, 24, .inl (fun _ => 0))), (q5, .inl (ar 0, 24, .inl (fun _ => 0)))] := hD
  refine lv_aload_n hx hb dX4_init_44 rfl (lv_at hl 0 rfl) ?_
  refine lv_bipush (v := (24 : Int32)) hx hb dX4_init_45 (by decide) ?_
  refine na_i (N' := 24) hx hb (hts _ wd_aci) hK hP hD hS hA (by decide) (by decide) (by decide) (Nat.le_of_ble_eq_true rfl) (Nat.le_of_ble_eq_true rfl) dX4_init_47 (fun q6 H hP hD hS => ?_)
  have hP : va_P D vwCl [(h0, .inr (4, [.ref q1, .ref q2, .ref q3, .ref q4, .ref q5, .null, .null, .null, .null, .int 0])), (q1, .inl (ar 0, 24, .inl (fun _ => 0))), (q2, .inl (ar 0, 24, .inl (fun _ => 0))), (q3, .inl (ar 0, 24, .inl (fun _ => 0))), (q4, .inl (ar 0, 24, .inl (fun _ => 0))), (q5, .inl (ar 0, 24, .inl (fun _ => 0))), (q6, .inl (ar 0, 24, .inl (fun _ => 0)))] H := hP
  have hD : va_D A [(h0, .inr (4, [.ref q1, .ref q2, .ref q3, .ref q4, .ref q5, .null, .null, .null, .null, .int 0])), (q1, .inl (ar 0, 24, .inl (fun _ => 0))), (q2, .inl (ar 0, 24, .inl (fun _ => 0))), (q3, .inl (ar 0, 24, .inl (fun _ => 0))), (q4, .inl (ar 0, 24, .inl (fun _ => 0))), (q5, .inl (ar 0, 24, .inl (fun _ => 0))), (q6, .inl (ar 0, 24, .inl (fun _ => 0)))] := hD
  refine va_putF (D := D) (ci := 4) (v := .ref q6) (ty := (.array .int)) (C := RX4) (T := TX4) (N := 10) hx hb hts in_X4 tyX4 tyX4_ok nmX4 hown hK hP hD hS 0 rfl rfl 5 (by decide) (hts _ wd_138) (fun _ h9 => h9) rfl hin rfl (by decide +kernel) rfl rfl (Nat.le_of_ble_eq_true rfl) dX4_init_49 (fun H locs hP hD hS => ?_)
  have hP : va_P D vwCl [(h0, .inr (4, [.ref q1, .ref q2, .ref q3, .ref q4, .ref q5, .ref q6, .null, .null, .null, .int 0])), (q1, .inl (ar 0, 24, .inl (fun _ => 0))), (q2, .inl (ar 0, 24, .inl (fun _ => 0))), (q3, .inl (ar 0, 24, .inl (fun _ => 0))), (q4, .inl (ar 0, 24, .inl (fun _ => 0))), (q5, .inl (ar 0, 24, .inl (fun _ => 0))), (q6, .inl (ar 0, 24, .inl (fun _ => 0)))] H := hP
  have hD : va_D A [(h0, .inr (4, [.ref q1, .ref q2, .ref q3, .ref q4, .ref q5, .ref q6, .null, .null, .null, .int 0])), (q1, .inl (ar 0, 24, .inl (fun _ => 0))), (q2, .inl (ar 0, 24, .inl (fun _ => 0))), (q3, .inl (ar 0, 24, .inl (fun _ => 0))), (q4, .inl (ar 0, 24, .inl (fun _ => 0))), (q5, .inl (ar 0, 24, .inl (fun _ => 0))), (q6, .inl (ar 0, 24, .inl (fun _ => 0)))] := hD
  refine lv_aload_n hx hb dX4_init_52 rfl (lv_at hl 0 rfl) ?_
  refine lv_bipush (v := (24 : Int32)) hx hb dX4_init_53 (by decide) ?_
  refine na_i (N' := 24) hx hb (hts _ wd_aci) hK hP hD hS hA (by decide) (by decide) (by decide) (Nat.le_of_ble_eq_true rfl) (Nat.le_of_ble_eq_true rfl) dX4_init_55 (fun q7 H hP hD hS => ?_)
  have hP : va_P D vwCl [(h0, .inr (4, [.ref q1, .ref q2, .ref q3, .ref q4, .ref q5, .ref q6, .null, .null, .null, .int 0])), (q1, .inl (ar 0, 24, .inl (fun _ => 0))), (q2, .inl (ar 0, 24, .inl (fun _ => 0))), (q3, .inl (ar 0, 24, .inl (fun _ => 0))), (q4, .inl (ar 0, 24, .inl (fun _ => 0))), (q5, .inl (ar 0, 24, .inl (fun _ => 0))), (q6, .inl (ar 0, 24, .inl (fun _ => 0))), (q7, .inl (ar 0, 24, .inl (fun _ => 0)))] H := hP
  have hD : va_D A [(h0, .inr (4, [.ref q1, .ref q2, .ref q3, .ref q4, .ref q5, .ref q6, .null, .null, .null, .int 0])), (q1, .inl (ar 0, 24, .inl (fun _ => 0))), (q2, .inl (ar 0, 24, .inl (fun _ => 0))), (q3, .inl (ar 0, 24, .inl (fun _ => 0))), (q4, .inl (ar 0, 24, .inl (fun _ => 0))), (q5, .inl (ar 0, 24, .inl (fun _ => 0))), (q6, .inl (ar 0, 24, .inl (fun _ => 0))), (q7, .inl (ar 0, 24, .inl (fun _ => 0)))] := hD
  refine va_putF (D := D) (ci := 4) (v := .ref q7) (ty := (.array .int)) (C := RX4) (T := TX4) (N := 10) hx hb hts in_X4 tyX4 tyX4_ok nmX4 hown hK hP hD hS 0 rfl rfl 6 (by decide) (hts _ wd_143) (fun _ h9 => h9) rfl hin rfl (by decide +kernel) rfl rfl (Nat.le_of_ble_eq_true rfl) dX4_init_57 (fun H locs hP hD hS => ?_)
  have hP : va_P D vwCl [(h0, .inr (4, [.ref q1, .ref q2, .ref q3, .ref q4, .ref q5, .ref q6, .ref q7, .null, .null, .int 0])), (q1, .inl (ar 0, 24, .inl (fun _ => 0))), (q2, .inl (ar 0, 24, .inl (fun _ => 0))), (q3, .inl (ar 0, 24, .inl (fun _ => 0))), (q4, .inl (ar 0, 24, .inl (fun _ => 0))), (q5, .inl (ar 0, 24, .inl (fun _ => 0))), (q6, .inl (ar 0, 24, .inl (fun _ => 0))), (q7, .inl (ar 0, 24, .inl (fun _ => 0)))] H := hP
  have hD : va_D A [(h0, .inr (4, [.ref q1, .ref q2, .ref q3, .ref q4, .ref q5, .ref q6, .ref q7, .null, .null, .int 0])), (q1, .inl (ar 0, 24, .inl (fun _ => 0))), (q2, .inl (ar 0, 24, .inl (fun _ => 0))), (q3, .inl (ar 0, 24, .inl (fun _ => 0))), (q4, .inl (ar 0, 24, .inl (fun _ => 0))), (q5, .inl (ar 0, 24, .inl (fun _ => 0))), (q6, .inl (ar 0, 24, .inl (fun _ => 0))), (q7, .inl (ar 0, 24, .inl (fun _ => 0)))] := hD
  refine lv_aload_n hx hb dX4_init_60 rfl (lv_at hl 0 rfl) ?_
  refine lv_bipush (v := (24 : Int32)) hx hb dX4_init_61 (by decide) ?_
  refine na_z (N' := 24) hx hb (hts _ wd_acz) hK hP hD hS hA (by decide) (by decide) (by decide) (Nat.le_of_ble_eq_true rfl) (Nat.le_of_ble_eq_true rfl) dX4_init_63 (fun q8 H hP hD hS => ?_)
  have hP : va_P D vwCl [(h0, .inr (4, [.ref q1, .ref q2, .ref q3, .ref q4, .ref q5, .ref q6, .ref q7, .null, .null, .int 0])), (q1, .inl (ar 0, 24, .inl (fun _ => 0))), (q2, .inl (ar 0, 24, .inl (fun _ => 0))), (q3, .inl (ar 0, 24, .inl (fun _ => 0))), (q4, .inl (ar 0, 24, .inl (fun _ => 0))), (q5, .inl (ar 0, 24, .inl (fun _ => 0))), (q6, .inl (ar 0, 24, .inl (fun _ => 0))), (q7, .inl (ar 0, 24, .inl (fun _ => 0))), (q8, .inl (ar 1, 24, .inl (fun _ => 0)))] H := hP
  have hD : va_D A [(h0, .inr (4, [.ref q1, .ref q2, .ref q3, .ref q4, .ref q5, .ref q6, .ref q7, .null, .null, .int 0])), (q1, .inl (ar 0, 24, .inl (fun _ => 0))), (q2, .inl (ar 0, 24, .inl (fun _ => 0))), (q3, .inl (ar 0, 24, .inl (fun _ => 0))), (q4, .inl (ar 0, 24, .inl (fun _ => 0))), (q5, .inl (ar 0, 24, .inl (fun _ => 0))), (q6, .inl (ar 0, 24, .inl (fun _ => 0))), (q7, .inl (ar 0, 24, .inl (fun _ => 0))), (q8, .inl (ar 1, 24, .inl (fun _ => 0)))] := hD
  refine va_putF (D := D) (ci := 4) (v := .ref q8) (ty := (.array .boolean)) (C := RX4) (T := TX4) (N := 10) hx hb hts in_X4 tyX4 tyX4_ok nmX4 hown hK hP hD hS 0 rfl rfl 7 (by decide) (hts _ wd_146) (fun _ h9 => h9) rfl hin rfl (by decide +kernel) rfl rfl (Nat.le_of_ble_eq_true rfl) dX4_init_65 (fun H locs hP hD hS => ?_)
  have hP : va_P D vwCl [(h0, .inr (4, [.ref q1, .ref q2, .ref q3, .ref q4, .ref q5, .ref q6, .ref q7, .ref q8, .null, .int 0])), (q1, .inl (ar 0, 24, .inl (fun _ => 0))), (q2, .inl (ar 0, 24, .inl (fun _ => 0))), (q3, .inl (ar 0, 24, .inl (fun _ => 0))), (q4, .inl (ar 0, 24, .inl (fun _ => 0))), (q5, .inl (ar 0, 24, .inl (fun _ => 0))), (q6, .inl (ar 0, 24, .inl (fun _ => 0))), (q7, .inl (ar 0, 24, .inl (fun _ => 0))), (q8, .inl (ar 1, 24, .inl (fun _ => 0)))] H := hP
  have hD : va_D A [(h0, .inr (4, [.ref q1, .ref q2, .ref q3, .ref q4, .ref q5, .ref q6, .ref q7, .ref q8, .null, .int 0])), (q1, .inl (ar 0, 24, .inl (fun _ => 0))), (q2, .inl (ar 0, 24, .inl (fun _ => 0))), (q3, .inl (ar 0, 24, .inl (fun _ => 0))), (q4, .inl (ar 0, 24, .inl (fun _ => 0))), (q5, .inl (ar 0, 24, .inl (fun _ => 0))), (q6, .inl (ar 0, 24, .inl (fun _ => 0))), (q7, .inl (ar 0, 24, .inl (fun _ => 0))), (q8, .inl (ar 1, 24, .inl (fun _ => 0)))] := hD
  refine lv_aload_n hx hb dX4_init_68 rfl (lv_at hl 0 rfl) ?_
  refine lv_bipush (v := (24 : Int32)) hx hb dX4_init_69 (by decide) ?_
  refine na_z (N' := 24) hx hb (hts _ wd_acz) hK hP hD hS hA (by decide) (by decide) (by decide) (Nat.le_of_ble_eq_true rfl) (Nat.le_of_ble_eq_true rfl) dX4_init_71 (fun q9 H hP hD hS => ?_)
  have hP : va_P D vwCl [(h0, .inr (4, [.ref q1, .ref q2, .ref q3, .ref q4, .ref q5, .ref q6, .ref q7, .ref q8, .null, .int 0])), (q1, .inl (ar 0, 24, .inl (fun _ => 0))), (q2, .inl (ar 0, 24, .inl (fun _ => 0))), (q3, .inl (ar 0, 24, .inl (fun _ => 0))), (q4, .inl (ar 0, 24, .inl (fun _ => 0))), (q5, .inl (ar 0, 24, .inl (fun _ => 0))), (q6, .inl (ar 0, 24, .inl (fun _ => 0))), (q7, .inl (ar 0, 24, .inl (fun _ => 0))), (q8, .inl (ar 1, 24, .inl (fun _ => 0))), (q9, .inl (ar 1, 24, .inl (fun _ => 0)))] H := hP
  have hD : va_D A [(h0, .inr (4, [.ref q1, .ref q2, .ref q3, .ref q4, .ref q5, .ref q6, .ref q7, .ref q8, .null, .int 0])), (q1, .inl (ar 0, 24, .inl (fun _ => 0))), (q2, .inl (ar 0, 24, .inl (fun _ => 0))), (q3, .inl (ar 0, 24, .inl (fun _ => 0))), (q4, .inl (ar 0, 24, .inl (fun _ => 0))), (q5, .inl (ar 0, 24, .inl (fun _ => 0))), (q6, .inl (ar 0, 24, .inl (fun _ => 0))), (q7, .inl (ar 0, 24, .inl (fun _ => 0))), (q8, .inl (ar 1, 24, .inl (fun _ => 0))), (q9, .inl (ar 1, 24, .inl (fun _ => 0)))] := hD
  refine va_putF (D := D) (ci := 4) (v := .ref q9) (ty := (.array .boolean)) (C := RX4) (T := TX4) (N := 10) hx hb hts in_X4 tyX4 tyX4_ok nmX4 hown hK hP hD hS 0 rfl rfl 8 (by decide) (hts _ wd_151) (fun _ h9 => h9) rfl hin rfl (by decide +kernel) rfl rfl (Nat.le_of_ble_eq_true rfl) dX4_init_73 (fun H locs hP hD hS => ?_)
  have hP : va_P D vwCl [(h0, .inr (4, [.ref q1, .ref q2, .ref q3, .ref q4, .ref q5, .ref q6, .ref q7, .ref q8, .ref q9, .int 0])), (q1, .inl (ar 0, 24, .inl (fun _ => 0))), (q2, .inl (ar 0, 24, .inl (fun _ => 0))), (q3, .inl (ar 0, 24, .inl (fun _ => 0))), (q4, .inl (ar 0, 24, .inl (fun _ => 0))), (q5, .inl (ar 0, 24, .inl (fun _ => 0))), (q6, .inl (ar 0, 24, .inl (fun _ => 0))), (q7, .inl (ar 0, 24, .inl (fun _ => 0))), (q8, .inl (ar 1, 24, .inl (fun _ => 0))), (q9, .inl (ar 1, 24, .inl (fun _ => 0)))] H := hP
  have hD : va_D A [(h0, .inr (4, [.ref q1, .ref q2, .ref q3, .ref q4, .ref q5, .ref q6, .ref q7, .ref q8, .ref q9, .int 0])), (q1, .inl (ar 0, 24, .inl (fun _ => 0))), (q2, .inl (ar 0, 24, .inl (fun _ => 0))), (q3, .inl (ar 0, 24, .inl (fun _ => 0))), (q4, .inl (ar 0, 24, .inl (fun _ => 0))), (q5, .inl (ar 0, 24, .inl (fun _ => 0))), (q6, .inl (ar 0, 24, .inl (fun _ => 0))), (q7, .inl (ar 0, 24, .inl (fun _ => 0))), (q8, .inl (ar 1, 24, .inl (fun _ => 0))), (q9, .inl (ar 1, 24, .inl (fun _ => 0)))] := hD
  refine lv_aload_n hx hb dX4_init_76 rfl (lv_at hl 0 rfl) ?_
  refine lv_iconst (v := (0 : Int32)) hx hb dX4_init_77 (by decide) ?_
  refine va_put (D := D) (ci := 4) (v := .int (0 : Int32)) (ty := .int) (C := RX4) (T := TX4) (N := 10) hx hb hts in_X4 tyX4 tyX4_ok nmX4 hown hK hP hD hS 0 rfl rfl 9 (by decide) (hts _ wd_156) (fun _ h9 => h9) rfl (by decide +kernel) rfl rfl (Nat.le_of_ble_eq_true rfl) dX4_init_78 (fun H locs hP hD hS => ?_)
  have hP : va_P D vwCl [(h0, .inr (4, [.ref q1, .ref q2, .ref q3, .ref q4, .ref q5, .ref q6, .ref q7, .ref q8, .ref q9, .int (0 : Int32)])), (q1, .inl (ar 0, 24, .inl (fun _ => 0))), (q2, .inl (ar 0, 24, .inl (fun _ => 0))), (q3, .inl (ar 0, 24, .inl (fun _ => 0))), (q4, .inl (ar 0, 24, .inl (fun _ => 0))), (q5, .inl (ar 0, 24, .inl (fun _ => 0))), (q6, .inl (ar 0, 24, .inl (fun _ => 0))), (q7, .inl (ar 0, 24, .inl (fun _ => 0))), (q8, .inl (ar 1, 24, .inl (fun _ => 0))), (q9, .inl (ar 1, 24, .inl (fun _ => 0)))] H := hP
  have hD : va_D A [(h0, .inr (4, [.ref q1, .ref q2, .ref q3, .ref q4, .ref q5, .ref q6, .ref q7, .ref q8, .ref q9, .int (0 : Int32)])), (q1, .inl (ar 0, 24, .inl (fun _ => 0))), (q2, .inl (ar 0, 24, .inl (fun _ => 0))), (q3, .inl (ar 0, 24, .inl (fun _ => 0))), (q4, .inl (ar 0, 24, .inl (fun _ => 0))), (q5, .inl (ar 0, 24, .inl (fun _ => 0))), (q6, .inl (ar 0, 24, .inl (fun _ => 0))), (q7, .inl (ar 0, 24, .inl (fun _ => 0))), (q8, .inl (ar 1, 24, .inl (fun _ => 0))), (q9, .inl (ar 1, 24, .inl (fun _ => 0)))] := hD
  have hP9 := hP.sub (ws' := [(h0, .inr (4, [.ref q1, .ref q2, .ref q3, .ref q4, .ref q5, .ref q6, .ref q7, .ref q8, .ref q9, .int (0 : Int32)])), (q1, .inl (ar 0, 24, .inl (fun _ => 0))), (q2, .inl (ar 0, 24, .inl (fun _ => 0))), (q3, .inl (ar 0, 24, .inl (fun _ => 0))), (q4, .inl (ar 0, 24, .inl (fun _ => 0))), (q5, .inl (ar 0, 24, .inl (fun _ => 0))), (q6, .inl (ar 0, 24, .inl (fun _ => 0))), (q7, .inl (ar 0, 24, .inl (fun _ => 0))), (q8, .inl (ar 1, 24, .inl (fun _ => 0))), (q9, .inl (ar 1, 24, .inl (fun _ => 0)))]) [0, 1, 2, 3, 4, 5, 6, 7, 8, 9] rfl
  have hD9 := hD.sub (ws' := [(h0, .inr (4, [.ref q1, .ref q2, .ref q3, .ref q4, .ref q5, .ref q6, .ref q7, .ref q8, .ref q9, .int (0 : Int32)])), (q1, .inl (ar 0, 24, .inl (fun _ => 0))), (q2, .inl (ar 0, 24, .inl (fun _ => 0))), (q3, .inl (ar 0, 24, .inl (fun _ => 0))), (q4, .inl (ar 0, 24, .inl (fun _ => 0))), (q5, .inl (ar 0, 24, .inl (fun _ => 0))), (q6, .inl (ar 0, 24, .inl (fun _ => 0))), (q7, .inl (ar 0, 24, .inl (fun _ => 0))), (q8, .inl (ar 1, 24, .inl (fun _ => 0))), (q9, .inl (ar 1, 24, .inl (fun _ => 0)))]) [0, 1, 2, 3, 4, 5, 6, 7, 8, 9] (by decide) rfl
  refine W.widen (k := 9) (n := 216) (Nat.le_of_ble_eq_true rfl) (Nat.le_of_ble_eq_true rfl) ?_
  exact W.vret hx hb hr (fun t ht hW => ⟨⟨(fun k => ([q1, q2, q3, q4, q5, q6, q7, q8, q9] : List Nat).getD k 0), rfl, trivial, by rw [ht]; exact hP9, hD9⟩, hS.F ht⟩) hS.2.2 dX4_init_81
theorem dX2_init_0 : decode cX2_init 0 = .ok (.aload_n 0, 1) := by decide +kernel
theorem dX2_init_1 : decode cX2_init 1 = .ok (.invokespecial 3, 3) := by decide +kernel
theorem dX2_init_4 : decode cX2_init 4 = .ok (.aload_n 0, 1) := by decide +kernel
theorem dX2_init_5 : decode cX2_init 5 = .ok (.bipush 24, 2) := by decide +kernel
theorem dX2_init_7 : decode cX2_init 7 = .ok (.newarray .int, 2) := by decide +kernel
theorem dX2_init_9 : decode cX2_init 9 = .ok (.putfield 9, 3) := by decide +kernel
theorem dX2_init_12 : decode cX2_init 12 = .ok (.aload_n 0, 1) := by decide +kernel
theorem dX2_init_13 : decode cX2_init 13 = .ok (.bipush 24, 2) := by decide +kernel
theorem dX2_init_15 : decode cX2_init 15 = .ok (.newarray .int, 2) := by decide +kernel
theorem dX2_init_17 : decode cX2_init 17 = .ok (.putfield 15, 3) := by decide +kernel
theorem dX2_init_20 : decode cX2_init 20 = .ok (.aload_n 0, 1) := by decide +kernel
theorem dX2_init_21 : decode cX2_init 21 = .ok (.bipush 24, 2) := by decide +kernel
theorem dX2_init_23 : decode cX2_init 23 = .ok (.newarray .int, 2) := by decide +kernel
theorem dX2_init_25 : decode cX2_init 25 = .ok (.putfield 18, 3) := by decide +kernel
theorem dX2_init_28 : decode cX2_init 28 = .ok (.aload_n 0, 1) := by decide +kernel
theorem dX2_init_29 : decode cX2_init 29 = .ok (.bipush 24, 2) := by decide +kernel
theorem dX2_init_31 : decode cX2_init 31 = .ok (.newarray .int, 2) := by decide +kernel
theorem dX2_init_33 : decode cX2_init 33 = .ok (.putfield 21, 3) := by decide +kernel
theorem dX2_init_36 : decode cX2_init 36 = .ok (.aload_n 0, 1) := by decide +kernel
theorem dX2_init_37 : decode cX2_init 37 = .ok (.bipush 24, 2) := by decide +kernel
theorem dX2_init_39 : decode cX2_init 39 = .ok (.newarray .int, 2) := by decide +kernel
theorem dX2_init_41 : decode cX2_init 41 = .ok (.putfield 24, 3) := by decide +kernel
theorem dX2_init_44 : decode cX2_init 44 = .ok (.aload_n 0, 1) := by decide +kernel
theorem dX2_init_45 : decode cX2_init 45 = .ok (.bipush 24, 2) := by decide +kernel
theorem dX2_init_47 : decode cX2_init 47 = .ok (.newarray .int, 2) := by decide +kernel
theorem dX2_init_49 : decode cX2_init 49 = .ok (.putfield 27, 3) := by decide +kernel
theorem dX2_init_52 : decode cX2_init 52 = .ok (.aload_n 0, 1) := by decide +kernel
theorem dX2_init_53 : decode cX2_init 53 = .ok (.bipush 8, 2) := by decide +kernel
theorem dX2_init_55 : decode cX2_init 55 = .ok (.newarray .int, 2) := by decide +kernel
theorem dX2_init_57 : decode cX2_init 57 = .ok (.putfield 30, 3) := by decide +kernel
theorem dX2_init_60 : decode cX2_init 60 = .ok (.aload_n 0, 1) := by decide +kernel
theorem dX2_init_61 : decode cX2_init 61 = .ok (.iconst 0, 1) := by decide +kernel
theorem dX2_init_62 : decode cX2_init 62 = .ok (.putfield 33, 3) := by decide +kernel
theorem dX2_init_65 : decode cX2_init 65 = .ok (.aload_n 0, 1) := by decide +kernel
theorem dX2_init_66 : decode cX2_init 66 = .ok (.iconst 0, 1) := by decide +kernel
theorem dX2_init_67 : decode cX2_init 67 = .ok (.putfield 37, 3) := by decide +kernel
theorem dX2_init_70 : decode cX2_init 70 = .ok (.return_, 1) := by decide +kernel
abbrev wi_X2 (ar : Nat → ClassId) (h0 : Nat) (q : Nat → Nat) : va_W := [(h0, .inr (2, [.ref (q 0), .ref (q 1), .ref (q 2), .ref (q 3), .ref (q 4), .ref (q 5), .ref (q 6), .int (0 : Int32), .int (0 : Int32)])), ((q 0), .inl (ar 0, 24, .inl (fun _ => 0))), ((q 1), .inl (ar 0, 24, .inl (fun _ => 0))), ((q 2), .inl (ar 0, 24, .inl (fun _ => 0))), ((q 3), .inl (ar 0, 24, .inl (fun _ => 0))), ((q 4), .inl (ar 0, 24, .inl (fun _ => 0))), ((q 5), .inl (ar 0, 24, .inl (fun _ => 0))), ((q 6), .inl (ar 0, 8, .inl (fun _ => 0)))]
set_option maxRecDepth 100000 in
set_option maxHeartbeats 8000000 in
theorem ci_X2 (l : Launch) (D : va_G) (ar : Nat → ClassId) (h0 : Nat) (sz : Nat) : Met l yX2_init (.code yX2_init cX2_init 1 none :: tb) ({ frames := 1, cells := 7, slots := 152, locals := 20 } : Room) (va_Pc [.ref h0] (fun U => U.heap.size = sz ∧ va_P D vwCl [(h0, .inr (2, [.null, .null, .null, .null, .null, .null, .null, .int 0, .int 0]))] U.heap ∧ va_K D vwCl (sh_t ar) U ∧ va_D (fun _ => True) [(h0, .inr (2, [.null, .null, .null, .null, .null, .null, .null, .int 0, .int 0]))] ∧ nsOk U ∧ va_AO RX6 U)) (va_Qv (fun _ : Nat → Nat => True) (fun q t => va_P D vwCl (wi_X2 ar h0  q) t.heap ∧ va_D (va_A [(h0, .inr (2, [.null, .null, .null, .null, .null, .null, .null, .int 0, .int 0]))] sz) (wi_X2 ar h0  q)) (va_A [(h0, .inr (2, [.null, .null, .null, .null, .null, .null, .null, .int 0, .int 0]))] sz)) 7 152 (va_A [(h0, .inr (2, [.null, .null, .null, .null, .null, .null, .null, .int 0, .int 0]))] sz) := by
  refine Met.ofW (cc := cX2_init) (maxL := 1) (ret := none) (by decide) rfl ?_
  intro p e s m args below meth c s₁ B hml hv
  obtain ⟨rfl, hsz, hP, hK, hD0, hN, hAO⟩ := hv
  have hx := B.exec
  have hb := B.bytes
  have hr := B.returns
  have hts : ∀ w ∈ tb, w.before _ s = true := fun w hw => atoms_spec (ws := .code yX2_init cX2_init 1 none :: tb) B.pre w (List.mem_cons_of_mem _ hw)
  have hown : s.vm.findClass RX2 = some m.cls := findClass_of_methodNamed B.named
  have hlocks := B.notSynchronized
  have hin : meth.name = "<init>" := (name_of_methodNamed B.named B.method).1
  subst hsz
  have hD := hD0.self (sz := s.heap.size)
  generalize hAe : va_A [(h0, .inr (2, [.null, .null, .null, .null, .null, .null, .null, .int 0, .int 0]))] s.heap.size = A at hD ⊢
  have hA : ∀ q : Nat, s.heap.size ≤ q → A q := fun q h => by rw [← hAe]; exact Or.inr h
  have hS : va_S A s.heap s.heap [] := va_S.rf
  have hl := lv_entry ([.ref h0]) (n := 1) (Nat.le_of_ble_eq_true rfl)
  rw [lg_entry_eq]
  generalize (lg_sl ([.ref h0]) ++ List.replicate (1 - (lg_sl ([.ref h0])).length) Slot.unset).toArray = ls at hl ⊢
  have hl : lv_has ls 1 [(0, .ref h0)] := hl
  refine lv_aload_n hx hb dX2_init_0 rfl (lv_at hl 0 rfl) ?_
  refine W.objInit hx hb hown (hts _ wd_198) (hts _ wd_108) (hts _ wd_109) rfl (by rw [hml]; exact hl.1) rfl dX2_init_1 (Nat.le_of_ble_eq_true rfl) (Nat.le_of_ble_eq_true rfl) ?_
  refine W.eq (g2 := F0 m 4 ls []) rfl ?_
  refine lv_aload_n hx hb dX2_init_4 rfl (lv_at hl 0 rfl) ?_
  refine lv_bipush (v := (24 : Int32)) hx hb dX2_init_5 (by decide) ?_
  refine na_i (N' := 24) hx hb (hts _ wd_aci) hK hP hD hS hA (by decide) (by decide) (by decide) (Nat.le_of_ble_eq_true rfl) (Nat.le_of_ble_eq_true rfl) dX2_init_7 (fun q1 H hP hD hS => ?_)
  have hP : va_P D vwCl [(h0, .inr (2, [.null, .null, .null, .null, .null, .null, .null, .int 0, .int 0])), (q1, .inl (ar 0, 24, .inl (fun _ => 0)))] H := hP
  have hD : va_D A [(h0, .inr (2, [.null, .null, .null, .null, .null, .null, .null, .int 0, .int 0])), (q1, .inl (ar 0, 24, .inl (fun _ => 0)))] := hD
  refine va_putF (D := D) (ci := 2) (v := .ref q1) (ty := (.array .int)) (C := RX2) (T := TX2) (N := 9) hx hb hts in_X2 tyX2 tyX2_ok nmX2 hown hK hP hD hS 0 rfl rfl 0 (by decide) (hts _ wd_199) (fun _ h9 => h9) rfl hin rfl (by decide +kernel) rfl rfl (Nat.le_of_ble_eq_true rfl) dX2_init_9 (fun H locs hP hD hS => ?_)
  have hP : va_P D vwCl [(h0, .inr (2, [.ref q1, .null, .null, .null, .null, .null, .null, .int 0, .int 0])), (q1, .inl (ar 0, 24, .inl (fun _ => 0)))] H := hP
  have hD : va_D A [(h0, .inr (2, [.ref q1, .null, .null, .null, .null, .null, .null, .int 0, .int 0])), (q1, .inl (ar 0, 24, .inl (fun _ => 0)))] := hD
  refine lv_aload_n hx hb dX2_init_12 rfl (lv_at hl 0 rfl) ?_
  refine lv_bipush (v := (24 : Int32)) hx hb dX2_init_13 (by decide) ?_
  refine na_i (N' := 24) hx hb (hts _ wd_aci) hK hP hD hS hA (by decide) (by decide) (by decide) (Nat.le_of_ble_eq_true rfl) (Nat.le_of_ble_eq_true rfl) dX2_init_15 (fun q2 H hP hD hS => ?_)
  have hP : va_P D vwCl [(h0, .inr (2, [.ref q1, .null, .null, .null, .null, .null, .null, .int 0, .int 0])), (q1, .inl (ar 0, 24, .inl (fun _ => 0))), (q2, .inl (ar 0, 24, .inl (fun _ => 0)))] H := hP
  have hD : va_D A [(h0, .inr (2, [.ref q1, .null, .null, .null, .null, .null, .null, .int 0, .int 0])), (q1, .inl (ar 0, 24, .inl (fun _ => 0))), (q2, .inl (ar 0, 24, .inl (fun _ => 0)))] := hD
  refine va_putF (D := D) (ci := 2) (v := .ref q2) (ty := (.array .int)) (C := RX2) (T := TX2) (N := 9) hx hb hts in_X2 tyX2 tyX2_ok nmX2 hown hK hP hD hS 0 rfl rfl 1 (by decide) (hts _ wd_203) (fun _ h9 => h9) rfl hin rfl (by decide +kernel) rfl rfl (Nat.le_of_ble_eq_true rfl) dX2_init_17 (fun H locs hP hD hS => ?_)
  have hP : va_P D vwCl [(h0, .inr (2, [.ref q1, .ref q2, .null, .null, .null, .null, .null, .int 0, .int 0])), (q1, .inl (ar 0, 24, .inl (fun _ => 0))), (q2, .inl (ar 0, 24, .inl (fun _ => 0)))] H := hP
  have hD : va_D A [(h0, .inr (2, [.ref q1, .ref q2, .null, .null, .null, .null, .null, .int 0, .int 0])), (q1, .inl (ar 0, 24, .inl (fun _ => 0))), (q2, .inl (ar 0, 24, .inl (fun _ => 0)))] := hD
  refine lv_aload_n hx hb dX2_init_20 rfl (lv_at hl 0 rfl) ?_
  refine lv_bipush (v := (24 : Int32)) hx hb dX2_init_21 (by decide) ?_
  refine na_i (N' := 24) hx hb (hts _ wd_aci) hK hP hD hS hA (by decide) (by decide) (by decide) (Nat.le_of_ble_eq_true rfl) (Nat.le_of_ble_eq_true rfl) dX2_init_23 (fun q3 H hP hD hS => ?_)
  have hP : va_P D vwCl [(h0, .inr (2, [.ref q1, .ref q2, .null, .null, .null, .null, .null, .int 0, .int 0])), (q1, .inl (ar 0, 24, .inl (fun _ => 0))), (q2, .inl (ar 0, 24, .inl (fun _ => 0))), (q3, .inl (ar 0, 24, .inl (fun _ => 0)))] H := hP
  have hD : va_D A [(h0, .inr (2, [.ref q1, .ref q2, .null, .null, .null, .null, .null, .int 0, .int 0])), (q1, .inl (ar 0, 24, .inl (fun _ => 0))), (q2, .inl (ar 0, 24, .inl (fun _ => 0))), (q3, .inl (ar 0, 24, .inl (fun _ => 0)))] := hD
  refine va_putF (D := D) (ci := 2) (v := .ref q3) (ty := (.array .int)) (C := RX2) (T := TX2) (N := 9) hx hb hts in_X2 tyX2 tyX2_ok nmX2 hown hK hP hD hS 0 rfl rfl 2 (by decide) (hts _ wd_207) (fun _ h9 => h9) rfl hin rfl (by decide +kernel) rfl rfl (Nat.le_of_ble_eq_true rfl) dX2_init_25 (fun H locs hP hD hS => ?_)
  have hP : va_P D vwCl [(h0, .inr (2, [.ref q1, .ref q2, .ref q3, .null, .null, .null, .null, .int 0, .int 0])), (q1, .inl (ar 0, 24, .inl (fun _ => 0))), (q2, .inl (ar 0, 24, .inl (fun _ => 0))), (q3, .inl (ar 0, 24, .inl (fun _ => 0)))] H := hP
  have hD : va_D A [(h0, .inr (2, [.ref q1, .ref q2, .ref q3, .null, .null, .null, .null, .int 0, .int 0])), (q1, .inl (ar 0, 24, .inl (fun _ => 0))), (q2, .inl (ar 0, 24, .inl (fun _ => 0))), (q3, .inl (ar 0, 24, .inl (fun _ => 0)))] := hD
  refine lv_aload_n hx hb dX2_init_28 rfl (lv_at hl 0 rfl) ?_
  refine lv_bipush (v := (24 : Int32)) hx hb dX2_init_29 (by decide) ?_
  refine na_i (N' := 24) hx hb (hts _ wd_aci) hK hP hD hS hA (by decide) (by decide) (by decide) (Nat.le_of_ble_eq_true rfl) (Nat.le_of_ble_eq_true rfl) dX2_init_31 (fun q4 H hP hD hS => ?_)
  have hP : va_P D vwCl [(h0, .inr (2, [.ref q1, .ref q2, .ref q3, .null, .null, .null, .null, .int 0, .int 0])), (q1, .inl (ar 0, 24, .inl (fun _ => 0))), (q2, .inl (ar 0, 24, .inl (fun _ => 0))), (q3, .inl (ar 0, 24, .inl (fun _ => 0))), (q4, .inl (ar 0, 24, .inl (fun _ => 0)))] H := hP
  have hD : va_D A [(h0, .inr (2, [.ref q1, .ref q2, .ref q3, .null, .null, .null, .null, .int 0, .int 0])), (q1, .inl (ar 0, 24, .inl (fun _ => 0))), (q2, .inl (ar 0, 24, .inl (fun _ => 0))), (q3, .inl (ar 0, 24, .inl (fun _ => 0))), (q4, .inl (ar 0, 24, .inl (fun _ => 0)))] := hD
  refine va_putF (D := D) (ci := 2) (v := .ref q4) (ty := (.array .int)) (C := RX2) (T := TX2) (N := 9) hx hb hts in_X2 tyX2 tyX2_ok nmX2 hown hK hP hD hS 0 rfl rfl 3 (by decide) (hts _ wd_209) (fun _ h9 => h9) rfl hin rfl (by decide +kernel) rfl rfl (Nat.le_of_ble_eq_true rfl) dX2_init_33 (fun H locs hP hD hS => ?_)
  have hP : va_P D vwCl [(h0, .inr (2, [.ref q1, .ref q2, .ref q3, .ref q4, .null, .null, .null, .int 0, .int 0])), (q1, .inl (ar 0, 24, .inl (fun _ => 0))), (q2, .inl (ar 0, 24, .inl (fun _ => 0))), (q3, .inl (ar 0, 24, .inl (fun _ => 0))), (q4, .inl (ar 0, 24, .inl (fun _ => 0)))] H := hP
  have hD : va_D A [(h0, .inr (2, [.ref q1, .ref q2, .ref q3, .ref q4, .null, .null, .null, .int 0, .int 0])), (q1, .inl (ar 0, 24, .inl (fun _ => 0))), (q2, .inl (ar 0, 24, .inl (fun _ => 0))), (q3, .inl (ar 0, 24, .inl (fun _ => 0))), (q4, .inl (ar 0, 24, .inl (fun _ => 0)))] := hD
  refine lv_aload_n hx hb dX2_init_36 rfl (lv_at hl 0 rfl) ?_
  refine lv_bipush (v := (24 : Int32)) hx hb dX2_init_37 (by decide) ?_
  refine na_i (N' := 24) hx hb (hts _ wd_aci) hK hP hD hS hA (by decide) (by decide) (by decide) (Nat.le_of_ble_eq_true rfl) (Nat.le_of_ble_eq_true rfl) dX2_init_39 (fun q5 H hP hD hS => ?_)
  have hP : va_P D vwCl [(h0, .inr (2, [.ref q1, .ref q2, .ref q3, .ref q4, .null, .null, .null, .int 0, .int 0])), (q1, .inl (ar 0, 24, .inl (fun _ => 0))), (q2, .inl (ar 0, 24, .inl (fun _ => 0))), (q3, .inl (ar 0, 24, .inl (fun _ => 0))), (q4, .inl (ar 0, 24, .inl (fun _ => 0))), (q5, .inl (ar 0, 24, .inl (fun _ => 0)))] H := hP
  have hD : va_D A [(h0, .inr (2, [.ref q1, .ref q2, .ref q3, .ref q4, .null, .null, .null, .int 0, .int 0])), (q1, .inl (ar 0, 24, .inl (fun _ => 0))), (q2, .inl (ar 0, 24, .inl (fun _ => 0))), (q3, .inl (ar 0, 24, .inl (fun _ => 0))), (q4, .inl (ar 0, 24, .inl (fun _ => 0))), (q5, .inl (ar 0, 24, .inl (fun _ => 0)))] := hD
  refine va_putF (D := D) (ci := 2) (v := .ref q5) (ty := (.array .int)) (C := RX2) (T := TX2) (N := 9) hx hb hts in_X2 tyX2 tyX2_ok nmX2 hown hK hP hD hS 0 rfl rfl 4 (by decide) (hts _ wd_211) (fun _ h9 => h9) rfl hin rfl (by decide +kernel) rfl rfl (Nat.le_of_ble_eq_true rfl) dX2_init_41 (fun H locs hP hD hS => ?_)
  have hP : va_P D vwCl [(h0, .inr (2, [.ref q1, .ref q2, .ref q3, .ref q4, .ref q5, .null, .null, .int 0, .int 0])), (q1, .inl (ar 0, 24, .inl (fun _ => 0))), (q2, .inl (ar 0, 24, .inl (fun _ => 0))), (q3, .inl (ar 0, 24, .inl (fun _ => 0))), (q4, .inl (ar 0, 24, .inl (fun _ => 0))), (q5, .inl (ar 0, 24, .inl (fun _ => 0)))] H := hP
  have hD : va_D A [(h0, .inr (2, [.ref q1, .ref q2, .ref q3, .ref q4, .ref q5, .null, .null, .int 0, .int 0])), (q1, .inl (ar 0, 24, .inl (fun _ => 0))), (q2, .inl (ar 0, 24, .inl (fun _ => 0))), (q3, .inl (ar 0, 24, .inl (fun _ => 0))), (q4, .inl (ar 0, 24, .inl (fun _ => 0))), (q5, .inl (ar 0, 24, .inl (fun _ => 0)))] := hD
  refine lv_aload_n hx hb dX2_init_44 rfl (lv_at hl 0 rfl) ?_
  refine lv_bipush (v := (24 : Int32)) hx hb dX2_init_45 (by decide) ?_
  refine na_i (N' := 24) hx hb (hts _ wd_aci) hK hP hD hS hA (by decide) (by decide) (by decide) (Nat.le_of_ble_eq_true rfl) (Nat.le_of_ble_eq_true rfl) dX2_init_47 (fun q6 H hP hD hS => ?_)
  have hP : va_P D vwCl [(h0, .inr (2, [.ref q1, .ref q2, .ref q3, .ref q4, .ref q5, .null, .null, .int 0, .int 0])), (q1, .inl (ar 0, 24, .inl (fun _ => 0))), (q2, .inl (ar 0, 24, .inl (fun _ => 0))), (q3, .inl (ar 0, 24, .inl (fun _ => 0))), (q4, .inl (ar 0, 24, .inl (fun _ => 0))), (q5, .inl (ar 0, 24, .inl (fun _ => 0))), (q6, .inl (ar 0, 24, .inl (fun _ => 0)))] H := hP
  have hD : va_D A [(h0, .inr (2, [.ref q1, .ref q2, .ref q3, .ref q4, .ref q5, .null, .null, .int 0, .int 0])), (q1, .inl (ar 0, 24, .inl (fun _ => 0))), (q2, .inl (ar 0, 24, .inl (fun _ => 0))), (q3, .inl (ar 0, 24, .inl (fun _ => 0))), (q4, .inl (ar 0, 24, .inl (fun _ => 0))), (q5, .inl (ar 0, 24, .inl (fun _ => 0))), (q6, .inl (ar 0, 24, .inl (fun _ => 0)))] := hD
  refine va_putF (D := D) (ci := 2) (v := .ref q6) (ty := (.array .int)) (C := RX2) (T := TX2) (N := 9) hx hb hts in_X2 tyX2 tyX2_ok nmX2 hown hK hP hD hS 0 rfl rfl 5 (by decide) (hts _ wd_212) (fun _ h9 => h9) rfl hin rfl (by decide +kernel) rfl rfl (Nat.le_of_ble_eq_true rfl) dX2_init_49 (fun H locs hP hD hS => ?_)
  have hP : va_P D vwCl [(h0, .inr (2, [.ref q1, .ref q2, .ref q3, .ref q4, .ref q5, .ref q6, .null, .int 0, .int 0])), (q1, .inl (ar 0, 24, .inl (fun _ => 0))), (q2, .inl (ar 0, 24, .inl (fun _ => 0))), (q3, .inl (ar 0, 24, .inl (fun _ => 0))), (q4, .inl (ar 0, 24, .inl (fun _ => 0))), (q5, .inl (ar 0, 24, .inl (fun _ => 0))), (q6, .inl (ar 0, 24, .inl (fun _ => 0)))] H := hP
  have hD : va_D A [(h0, .inr (2, [.ref q1, .ref q2, .ref q3, .ref q4, .ref q5, .ref q6, .null, .int 0, .int 0])), (q1, .inl (ar 0, 24, .inl (fun _ => 0))), (q2, .inl (ar 0, 24, .inl (fun _ => 0))), (q3, .inl (ar 0, 24, .inl (fun _ => 0))), (q4, .inl (ar 0, 24, .inl (fun _ => 0))), (q5, .inl (ar 0, 24, .inl (fun _ => 0))), (q6, .inl (ar 0, 24, .inl (fun _ => 0)))] := hD
  refine lv_aload_n hx hb dX2_init_52 rfl (lv_at hl 0 rfl) ?_
  refine lv_bipush (v := (8 : Int32)) hx hb dX2_init_53 (by decide) ?_
  refine na_i (N' := 8) hx hb (hts _ wd_aci) hK hP hD hS hA (by decide) (by decide) (by decide) (Nat.le_of_ble_eq_true rfl) (Nat.le_of_ble_eq_true rfl) dX2_init_55 (fun q7 H hP hD hS => ?_)
  have hP : va_P D vwCl [(h0, .inr (2, [.ref q1, .ref q2, .ref q3, .ref q4, .ref q5, .ref q6, .null, .int 0, .int 0])), (q1, .inl (ar 0, 24, .inl (fun _ => 0))), (q2, .inl (ar 0, 24, .inl (fun _ => 0))), (q3, .inl (ar 0, 24, .inl (fun _ => 0))), (q4, .inl (ar 0, 24, .inl (fun _ => 0))), (q5, .inl (ar 0, 24, .inl (fun _ => 0))), (q6, .inl (ar 0, 24, .inl (fun _ => 0))), (q7, .inl (ar 0, 8, .inl (fun _ => 0)))] H := hP
  have hD : va_D A [(h0, .inr (2, [.ref q1, .ref q2, .ref q3, .ref q4, .ref q5, .ref q6, .null, .int 0, .int 0])), (q1, .inl (ar 0, 24, .inl (fun _ => 0))), (q2, .inl (ar 0, 24, .inl (fun _ => 0))), (q3, .inl (ar 0, 24, .inl (fun _ => 0))), (q4, .inl (ar 0, 24, .inl (fun _ => 0))), (q5, .inl (ar 0, 24, .inl (fun _ => 0))), (q6, .inl (ar 0, 24, .inl (fun _ => 0))), (q7, .inl (ar 0, 8, .inl (fun _ => 0)))] := hD
  refine va_putF (D := D) (ci := 2) (v := .ref q7) (ty := (.array .int)) (C := RX2) (T := TX2) (N := 9) hx hb hts in_X2 tyX2 tyX2_ok nmX2 hown hK hP hD hS 0 rfl rfl 6 (by decide) (hts _ wd_213) (fun _ h9 => h9) rfl hin rfl (by decide +kernel) rfl rfl (Nat.le_of_ble_eq_true rfl) dX2_init_57 (fun H locs hP hD hS => ?_)
  have hP : va_P D vwCl [(h0, .inr (2, [.ref q1, .ref q2, .ref q3, .ref q4, .ref q5, .ref q6, .ref q7, .int 0, .int 0])), (q1, .inl (ar 0, 24, .inl (fun _ => 0))), (q2, .inl (ar 0, 24, .inl (fun _ => 0))), (q3, .inl (ar 0, 24, .inl (fun _ => 0))), (q4, .inl (ar 0, 24, .inl (fun _ => 0))), (q5, .inl (ar 0, 24, .inl (fun _ => 0))), (q6, .inl (ar 0, 24, .inl (fun _ => 0))), (q7, .inl (ar 0, 8, .inl (fun _ => 0)))] H := hP
  have hD : va_D A [(h0, .inr (2, [.ref q1, .ref q2, .ref q3, .ref q4, .ref q5, .ref q6, .ref q7, .int 0, .int 0])), (q1, .inl (ar 0, 24, .inl (fun _ => 0))), (q2, .inl (ar 0, 24, .inl (fun _ => 0))), (q3, .inl (ar 0, 24, .inl (fun _ => 0))), (q4, .inl (ar 0, 24, .inl (fun _ => 0))), (q5, .inl (ar 0, 24, .inl (fun _ => 0))), (q6, .inl (ar 0, 24, .inl (fun _ => 0))), (q7, .inl (ar 0, 8, .inl (fun _ => 0)))] := hD
  refine lv_aload_n hx hb dX2_init_60 rfl (lv_at hl 0 rfl) ?_
  refine lv_iconst (v := (0 : Int32)) hx hb dX2_init_61 (by decide) ?_
  refine va_put (D := D) (ci := 2) (v := .int (0 : Int32)) (ty := .int) (C := RX2) (T := TX2) (N := 9) hx hb hts in_X2 tyX2 tyX2_ok nmX2 hown hK hP hD hS 0 rfl rfl 7 (by decide) (hts _ wd_216) (fun _ h9 => h9) rfl (by decide +kernel) rfl rfl (Nat.le_of_ble_eq_true rfl) dX2_init_62 (fun H locs hP hD hS => ?_)
  have hP : va_P D vwCl [(h0, .inr (2, [.ref q1, .ref q2, .ref q3, .ref q4, .ref q5, .ref q6, .ref q7, .int (0 : Int32), .int 0])), (q1, .inl (ar 0, 24, .inl (fun _ => 0))), (q2, .inl (ar 0, 24, .inl (fun _ => 0))), (q3, .inl (ar 0, 24, .inl (fun _ => 0))), (q4, .inl (ar 0, 24, .inl (fun _ => 0))), (q5, .inl (ar 0, 24, .inl (fun _ => 0))), (q6, .inl (ar 0, 24, .inl (fun _ => 0))), (q7, .inl (ar 0, 8, .inl (fun _ => 0)))] H := hP
  have hD : va_D A [(h0, .inr (2, [.ref q1, .ref q2, .ref q3, .ref q4, .ref q5, .ref q6, .ref q7, .int (0 : Int32), .int 0])), (q1, .inl (ar 0, 24, .inl (fun _ => 0))), (q2, .inl (ar 0, 24, .inl (fun _ => 0))), (q3, .inl (ar 0, 24, .inl (fun _ => 0))), (q4, .inl (ar 0, 24, .inl (fun _ => 0))), (q5, .inl (ar 0, 24, .inl (fun _ => 0))), (q6, .inl (ar 0, 24, .inl (fun _ => 0))), (q7, .inl (ar 0, 8, .inl (fun _ => 0)))] := hD
  refine lv_aload_n hx hb dX2_init_65 rfl (lv_at hl 0 rfl) ?_
  refine lv_iconst (v := (0 : Int32)) hx hb dX2_init_66 (by decide) ?_
  refine va_put (D := D) (ci := 2) (v := .int (0 : Int32)) (ty := .int) (C := RX2) (T := TX2) (N := 9) hx hb hts in_X2 tyX2 tyX2_ok nmX2 hown hK hP hD hS 0 rfl rfl 8 (by decide) (hts _ wd_217) (fun _ h9 => h9) rfl (by decide +kernel) rfl rfl (Nat.le_of_ble_eq_true rfl) dX2_init_67 (fun H locs hP hD hS => ?_)
  have hP : va_P D vwCl [(h0, .inr (2, [.ref q1, .ref q2, .ref q3, .ref q4, .ref q5, .ref q6, .ref q7, .int (0 : Int32), .int (0 : Int32)])), (q1, .inl (ar 0, 24, .inl (fun _ => 0))), (q2, .inl (ar 0, 24, .inl (fun _ => 0))), (q3, .inl (ar 0, 24, .inl (fun _ => 0))), (q4, .inl (ar 0, 24, .inl (fun _ => 0))), (q5, .inl (ar 0, 24, .inl (fun _ => 0))), (q6, .inl (ar 0, 24, .inl (fun _ => 0))), (q7, .inl (ar 0, 8, .inl (fun _ => 0)))] H := hP
  have hD : va_D A [(h0, .inr (2, [.ref q1, .ref q2, .ref q3, .ref q4, .ref q5, .ref q6, .ref q7, .int (0 : Int32), .int (0 : Int32)])), (q1, .inl (ar 0, 24, .inl (fun _ => 0))), (q2, .inl (ar 0, 24, .inl (fun _ => 0))), (q3, .inl (ar 0, 24, .inl (fun _ => 0))), (q4, .inl (ar 0, 24, .inl (fun _ => 0))), (q5, .inl (ar 0, 24, .inl (fun _ => 0))), (q6, .inl (ar 0, 24, .inl (fun _ => 0))), (q7, .inl (ar 0, 8, .inl (fun _ => 0)))] := hD
  have hP9 := hP.sub (ws' := [(h0, .inr (2, [.ref q1, .ref q2, .ref q3, .ref q4, .ref q5, .ref q6, .ref q7, .int (0 : Int32), .int (0 : Int32)])), (q1, .inl (ar 0, 24, .inl (fun _ => 0))), (q2, .inl (ar 0, 24, .inl (fun _ => 0))), (q3, .inl (ar 0, 24, .inl (fun _ => 0))), (q4, .inl (ar 0, 24, .inl (fun _ => 0))), (q5, .inl (ar 0, 24, .inl (fun _ => 0))), (q6, .inl (ar 0, 24, .inl (fun _ => 0))), (q7, .inl (ar 0, 8, .inl (fun _ => 0)))]) [0, 1, 2, 3, 4, 5, 6, 7] rfl
  have hD9 := hD.sub (ws' := [(h0, .inr (2, [.ref q1, .ref q2, .ref q3, .ref q4, .ref q5, .ref q6, .ref q7, .int (0 : Int32), .int (0 : Int32)])), (q1, .inl (ar 0, 24, .inl (fun _ => 0))), (q2, .inl (ar 0, 24, .inl (fun _ => 0))), (q3, .inl (ar 0, 24, .inl (fun _ => 0))), (q4, .inl (ar 0, 24, .inl (fun _ => 0))), (q5, .inl (ar 0, 24, .inl (fun _ => 0))), (q6, .inl (ar 0, 24, .inl (fun _ => 0))), (q7, .inl (ar 0, 8, .inl (fun _ => 0)))]) [0, 1, 2, 3, 4, 5, 6, 7] (by decide) rfl
  refine W.widen (k := 7) (n := 152) (Nat.le_of_ble_eq_true rfl) (Nat.le_of_ble_eq_true rfl) ?_
  exact W.vret hx hb hr (fun t ht hW => ⟨⟨(fun k => ([q1, q2, q3, q4, q5, q6, q7] : List Nat).getD k 0), rfl, trivial, by rw [ht]; exact hP9, hD9⟩, hS.F ht⟩) hS.2.2 dX2_init_70
theorem dX3_init_0 : decode cX3_init 0 = .ok (.aload_n 0, 1) := by decide +kernel
theorem dX3_init_1 : decode cX3_init 1 = .ok (.invokespecial 3, 3) := by decide +kernel
theorem dX3_init_4 : decode cX3_init 4 = .ok (.aload_n 0, 1) := by decide +kernel
theorem dX3_init_5 : decode cX3_init 5 = .ok (.iconst 0, 1) := by decide +kernel
theorem dX3_init_6 : decode cX3_init 6 = .ok (.putfield 9, 3) := by decide +kernel
theorem dX3_init_9 : decode cX3_init 9 = .ok (.aload_n 0, 1) := by decide +kernel
theorem dX3_init_10 : decode cX3_init 10 = .ok (.iconst 0, 1) := by decide +kernel
theorem dX3_init_11 : decode cX3_init 11 = .ok (.putfield 15, 3) := by decide +kernel
theorem dX3_init_14 : decode cX3_init 14 = .ok (.aload_n 0, 1) := by decide +kernel
theorem dX3_init_15 : decode cX3_init 15 = .ok (.iconst 0, 1) := by decide +kernel
theorem dX3_init_16 : decode cX3_init 16 = .ok (.putfield 18, 3) := by decide +kernel
theorem dX3_init_19 : decode cX3_init 19 = .ok (.aload_n 0, 1) := by decide +kernel
theorem dX3_init_20 : decode cX3_init 20 = .ok (.iconst 0, 1) := by decide +kernel
theorem dX3_init_21 : decode cX3_init 21 = .ok (.putfield 21, 3) := by decide +kernel
theorem dX3_init_24 : decode cX3_init 24 = .ok (.aload_n 0, 1) := by decide +kernel
theorem dX3_init_25 : decode cX3_init 25 = .ok (.sipush 192, 3) := by decide +kernel
theorem dX3_init_28 : decode cX3_init 28 = .ok (.newarray .int, 2) := by decide +kernel
theorem dX3_init_30 : decode cX3_init 30 = .ok (.putfield 24, 3) := by decide +kernel
theorem dX3_init_33 : decode cX3_init 33 = .ok (.aload_n 0, 1) := by decide +kernel
theorem dX3_init_34 : decode cX3_init 34 = .ok (.bipush 8, 2) := by decide +kernel
theorem dX3_init_36 : decode cX3_init 36 = .ok (.newarray .int, 2) := by decide +kernel
theorem dX3_init_38 : decode cX3_init 38 = .ok (.putfield 28, 3) := by decide +kernel
theorem dX3_init_41 : decode cX3_init 41 = .ok (.aload_n 0, 1) := by decide +kernel
theorem dX3_init_42 : decode cX3_init 42 = .ok (.iconst 0, 1) := by decide +kernel
theorem dX3_init_43 : decode cX3_init 43 = .ok (.putfield 31, 3) := by decide +kernel
theorem dX3_init_46 : decode cX3_init 46 = .ok (.aload_n 0, 1) := by decide +kernel
theorem dX3_init_47 : decode cX3_init 47 = .ok (.bipush 24, 2) := by decide +kernel
theorem dX3_init_49 : decode cX3_init 49 = .ok (.newarray .int, 2) := by decide +kernel
theorem dX3_init_51 : decode cX3_init 51 = .ok (.putfield 34, 3) := by decide +kernel
theorem dX3_init_54 : decode cX3_init 54 = .ok (.aload_n 0, 1) := by decide +kernel
theorem dX3_init_55 : decode cX3_init 55 = .ok (.bipush 24, 2) := by decide +kernel
theorem dX3_init_57 : decode cX3_init 57 = .ok (.newarray .int, 2) := by decide +kernel
theorem dX3_init_59 : decode cX3_init 59 = .ok (.putfield 37, 3) := by decide +kernel
theorem dX3_init_62 : decode cX3_init 62 = .ok (.aload_n 0, 1) := by decide +kernel
theorem dX3_init_63 : decode cX3_init 63 = .ok (.bipush 24, 2) := by decide +kernel
theorem dX3_init_65 : decode cX3_init 65 = .ok (.newarray .int, 2) := by decide +kernel
theorem dX3_init_67 : decode cX3_init 67 = .ok (.putfield 40, 3) := by decide +kernel
theorem dX3_init_70 : decode cX3_init 70 = .ok (.aload_n 0, 1) := by decide +kernel
theorem dX3_init_71 : decode cX3_init 71 = .ok (.bipush 24, 2) := by decide +kernel
theorem dX3_init_73 : decode cX3_init 73 = .ok (.newarray .int, 2) := by decide +kernel
theorem dX3_init_75 : decode cX3_init 75 = .ok (.putfield 43, 3) := by decide +kernel
theorem dX3_init_78 : decode cX3_init 78 = .ok (.aload_n 0, 1) := by decide +kernel
theorem dX3_init_79 : decode cX3_init 79 = .ok (.bipush 24, 2) := by decide +kernel
theorem dX3_init_81 : decode cX3_init 81 = .ok (.newarray .int, 2) := by decide +kernel
theorem dX3_init_83 : decode cX3_init 83 = .ok (.putfield 46, 3) := by decide +kernel
theorem dX3_init_86 : decode cX3_init 86 = .ok (.aload_n 0, 1) := by decide +kernel
theorem dX3_init_87 : decode cX3_init 87 = .ok (.bipush 8, 2) := by decide +kernel
theorem dX3_init_89 : decode cX3_init 89 = .ok (.newarray .int, 2) := by decide +kernel
theorem dX3_init_91 : decode cX3_init 91 = .ok (.putfield 49, 3) := by decide +kernel
theorem dX3_init_94 : decode cX3_init 94 = .ok (.aload_n 0, 1) := by decide +kernel
theorem dX3_init_95 : decode cX3_init 95 = .ok (.bipush 8, 2) := by decide +kernel
theorem dX3_init_97 : decode cX3_init 97 = .ok (.newarray .int, 2) := by decide +kernel
theorem dX3_init_99 : decode cX3_init 99 = .ok (.putfield 52, 3) := by decide +kernel
theorem dX3_init_102 : decode cX3_init 102 = .ok (.return_, 1) := by decide +kernel
abbrev wi_X3 (ar : Nat → ClassId) (h0 : Nat) (q : Nat → Nat) : va_W := [(h0, .inr (3, [.int (0 : Int32), .int (0 : Int32), .int (0 : Int32), .int (0 : Int32), .ref (q 0), .ref (q 1), .int (0 : Int32), .ref (q 2), .ref (q 3), .ref (q 4), .ref (q 5), .ref (q 6), .ref (q 7), .ref (q 8)])), ((q 0), .inl (ar 0, 192, .inl (fun _ => 0))), ((q 1), .inl (ar 0, 8, .inl (fun _ => 0))), ((q 2), .inl (ar 0, 24, .inl (fun _ => 0))), ((q 3), .inl (ar 0, 24, .inl (fun _ => 0))), ((q 4), .inl (ar 0, 24, .inl (fun _ => 0))), ((q 5), .inl (ar 0, 24, .inl (fun _ => 0))), ((q 6), .inl (ar 0, 24, .inl (fun _ => 0))), ((q 7), .inl (ar 0, 8, .inl (fun _ => 0))), ((q 8), .inl (ar 0, 8, .inl (fun _ => 0)))]
set_option maxRecDepth 100000 in
set_option maxHeartbeats 8000000 in
theorem ci_X3 (l : Launch) (D : va_G) (ar : Nat → ClassId) (h0 : Nat) (sz : Nat) : Met l yX3_init (.code yX3_init cX3_init 1 none :: tb) ({ frames := 1, cells := 9, slots := 336, locals := 20 } : Room) (va_Pc [.ref h0] (fun U => U.heap.size = sz ∧ va_P D vwCl [(h0, .inr (3, [.int 0, .int 0, .int 0, .int 0, .null, .null, .int 0, .null, .null, .null, .null, .null, .null, .null]))] U.heap ∧ va_K D vwCl (sh_t ar) U ∧ va_D (fun _ => True) [(h0, .inr (3, [.int 0, .int 0, .int 0, .int 0, .null, .null, .int 0, .null, .null, .null, .null, .null, .null, .null]))] ∧ nsOk U ∧ va_AO RX6 U)) (va_Qv (fun _ : Nat → Nat => True) (fun q t => va_P D vwCl (wi_X3 ar h0  q) t.heap ∧ va_D (va_A [(h0, .inr (3, [.int 0, .int 0, .int 0, .int 0, .null, .null, .int 0, .null, .null, .null, .null, .null, .null, .null]))] sz) (wi_X3 ar h0  q)) (va_A [(h0, .inr (3, [.int 0, .int 0, .int 0, .int 0, .null, .null, .int 0, .null, .null, .null, .null, .null, .null, .null]))] sz)) 9 336 (va_A [(h0, .inr (3, [.int 0, .int 0, .int 0, .int 0, .null, .null, .int 0, .null, .null, .null, .null, .null, .null, .null]))] sz) := by
  refine Met.ofW (cc := cX3_init) (maxL := 1) (ret := none) (by decide) rfl ?_
  intro p e s m args below meth c s₁ B hml hv
  obtain ⟨rfl, hsz, hP, hK, hD0, hN, hAO⟩ := hv
  have hx := B.exec
  have hb := B.bytes
  have hr := B.returns
  have hts : ∀ w ∈ tb, w.before _ s = true := fun w hw => atoms_spec (ws := .code yX3_init cX3_init 1 none :: tb) B.pre w (List.mem_cons_of_mem _ hw)
  have hown : s.vm.findClass RX3 = some m.cls := findClass_of_methodNamed B.named
  have hlocks := B.notSynchronized
  have hin : meth.name = "<init>" := (name_of_methodNamed B.named B.method).1
  subst hsz
  have hD := hD0.self (sz := s.heap.size)
  generalize hAe : va_A [(h0, .inr (3, [.int 0, .int 0, .int 0, .int 0, .null, .null, .int 0, .null, .null, .null, .null, .null, .null, .null]))] s.heap.size = A at hD ⊢
  have hA : ∀ q : Nat, s.heap.size ≤ q → A q := fun q h => by rw [← hAe]; exact Or.inr h
  have hS : va_S A s.heap s.heap [] := va_S.rf
  have hl := lv_entry ([.ref h0]) (n := 1) (Nat.le_of_ble_eq_true rfl)
  rw [lg_entry_eq]
  generalize (lg_sl ([.ref h0]) ++ List.replicate (1 - (lg_sl ([.ref h0])).length) Slot.unset).toArray = ls at hl ⊢
  have hl : lv_has ls 1 [(0, .ref h0)] := hl
  refine lv_aload_n hx hb dX3_init_0 rfl (lv_at hl 0 rfl) ?_
  refine W.objInit hx hb hown (hts _ wd_246) (hts _ wd_108) (hts _ wd_109) rfl (by rw [hml]; exact hl.1) rfl dX3_init_1 (Nat.le_of_ble_eq_true rfl) (Nat.le_of_ble_eq_true rfl) ?_
  refine W.eq (g2 := F0 m 4 ls []) rfl ?_
  refine lv_aload_n hx hb dX3_init_4 rfl (lv_at hl 0 rfl) ?_
  refine lv_iconst (v := (0 : Int32)) hx hb dX3_init_5 (by decide) ?_
  refine va_put (D := D) (ci := 3) (v := .int (0 : Int32)) (ty := .int) (C := RX3) (T := TX3) (N := 14) hx hb hts in_X3 tyX3 tyX3_ok nmX3 hown hK hP hD hS 0 rfl rfl 0 (by decide) (hts _ wd_247) (fun _ h9 => h9) rfl (by decide +kernel) rfl rfl (Nat.le_of_ble_eq_true rfl) dX3_init_6 (fun H locs hP hD hS => ?_)
  have hP : va_P D vwCl [(h0, .inr (3, [.int (0 : Int32), .int 0, .int 0, .int 0, .null, .null, .int 0, .null, .null, .null, .null, .null, .null, .null]))] H := hP
  have hD : va_D A [(h0, .inr (3, [.int (0 : Int32), .int 0, .int 0, .int 0, .null, .null, .int 0, .null, .null, .null, .null, .null, .null, .null]))] := hD
  refine lv_aload_n hx hb dX3_init_9 rfl (lv_at hl 0 rfl) ?_
  refine lv_iconst (v := (0 : Int32)) hx hb dX3_init_10 (by decide) ?_
  refine va_put (D := D) (ci := 3) (v := .int (0 : Int32)) (ty := .int) (C := RX3) (T := TX3) (N := 14) hx hb hts in_X3 tyX3 tyX3_ok nmX3 hown hK hP hD hS 0 rfl rfl 1 (by decide) (hts _ wd_249) (fun _ h9 => h9) rfl (by decide +kernel) rfl rfl (Nat.le_of_ble_eq_true rfl) dX3_init_11 (fun H locs hP hD hS => ?_)
  have hP : va_P D vwCl [(h0, .inr (3, [.int (0 : Int32), .int (0 : Int32), .int 0, .int 0, .null, .null, .int 0, .null, .null, .null, .null, .null, .null, .null]))] H := hP
  have hD : va_D A [(h0, .inr (3, [.int (0 : Int32), .int (0 : Int32), .int 0, .int 0, .null, .null, .int 0, .null, .null, .null, .null, .null, .null, .null]))] := hD
  refine lv_aload_n hx hb dX3_init_14 rfl (lv_at hl 0 rfl) ?_
  refine lv_iconst (v := (0 : Int32)) hx hb dX3_init_15 (by decide) ?_
  refine va_put (D := D) (ci := 3) (v := .int (0 : Int32)) (ty := .int) (C := RX3) (T := TX3) (N := 14) hx hb hts in_X3 tyX3 tyX3_ok nmX3 hown hK hP hD hS 0 rfl rfl 2 (by decide) (hts _ wd_251) (fun _ h9 => h9) rfl (by decide +kernel) rfl rfl (Nat.le_of_ble_eq_true rfl) dX3_init_16 (fun H locs hP hD hS => ?_)
  have hP : va_P D vwCl [(h0, .inr (3, [.int (0 : Int32), .int (0 : Int32), .int (0 : Int32), .int 0, .null, .null, .int 0, .null, .null, .null, .null, .null, .null, .null]))] H := hP
  have hD : va_D A [(h0, .inr (3, [.int (0 : Int32), .int (0 : Int32), .int (0 : Int32), .int 0, .null, .null, .int 0, .null, .null, .null, .null, .null, .null, .null]))] := hD
  refine lv_aload_n hx hb dX3_init_19 rfl (lv_at hl 0 rfl) ?_
  refine lv_iconst (v := (0 : Int32)) hx hb dX3_init_20 (by decide) ?_
  refine va_put (D := D) (ci := 3) (v := .int (0 : Int32)) (ty := .int) (C := RX3) (T := TX3) (N := 14) hx hb hts in_X3 tyX3 tyX3_ok nmX3 hown hK hP hD hS 0 rfl rfl 3 (by decide) (hts _ wd_253) (fun _ h9 => h9) rfl (by decide +kernel) rfl rfl (Nat.le_of_ble_eq_true rfl) dX3_init_21 (fun H locs hP hD hS => ?_)
  have hP : va_P D vwCl [(h0, .inr (3, [.int (0 : Int32), .int (0 : Int32), .int (0 : Int32), .int (0 : Int32), .null, .null, .int 0, .null, .null, .null, .null, .null, .null, .null]))] H := hP
  have hD : va_D A [(h0, .inr (3, [.int (0 : Int32), .int (0 : Int32), .int (0 : Int32), .int (0 : Int32), .null, .null, .int 0, .null, .null, .null, .null, .null, .null, .null]))] := hD
  refine lv_aload_n hx hb dX3_init_24 rfl (lv_at hl 0 rfl) ?_
  refine lv_sipush (v := (192 : Int32)) hx hb dX3_init_25 (by decide) ?_
  refine na_i (N' := 192) hx hb (hts _ wd_aci) hK hP hD hS hA (by decide) (by decide) (by decide) (Nat.le_of_ble_eq_true rfl) (Nat.le_of_ble_eq_true rfl) dX3_init_28 (fun q1 H hP hD hS => ?_)
  have hP : va_P D vwCl [(h0, .inr (3, [.int (0 : Int32), .int (0 : Int32), .int (0 : Int32), .int (0 : Int32), .null, .null, .int 0, .null, .null, .null, .null, .null, .null, .null])), (q1, .inl (ar 0, 192, .inl (fun _ => 0)))] H := hP
  have hD : va_D A [(h0, .inr (3, [.int (0 : Int32), .int (0 : Int32), .int (0 : Int32), .int (0 : Int32), .null, .null, .int 0, .null, .null, .null, .null, .null, .null, .null])), (q1, .inl (ar 0, 192, .inl (fun _ => 0)))] := hD
  refine va_putF (D := D) (ci := 3) (v := .ref q1) (ty := (.array .int)) (C := RX3) (T := TX3) (N := 14) hx hb hts in_X3 tyX3 tyX3_ok nmX3 hown hK hP hD hS 0 rfl rfl 4 (by decide) (hts _ wd_254) (fun _ h9 => h9) rfl hin rfl (by decide +kernel) rfl rfl (Nat.le_of_ble_eq_true rfl) dX3_init_30 (fun H locs hP hD hS => ?_)
  have hP : va_P D vwCl [(h0, .inr (3, [.int (0 : Int32), .int (0 : Int32), .int (0 : Int32), .int (0 : Int32), .ref q1, .null, .int 0, .null, .null, .null, .null, .null, .null, .null])), (q1, .inl (ar 0, 192, .inl (fun _ => 0)))] H := hP
  have hD : va_D A [(h0, .inr (3, [.int (0 : Int32), .int (0 : Int32), .int (0 : Int32), .int (0 : Int32), .ref q1, .null, .int 0, .null, .null, .null, .null, .null, .null, .null])), (q1, .inl (ar 0, 192, .inl (fun _ => 0)))] := hD
  refine lv_aload_n hx hb dX3_init_33 rfl (lv_at hl 0 rfl) ?_
  refine lv_bipush (v := (8 : Int32)) hx hb dX3_init_34 (by decide) ?_
  refine na_i (N' := 8) hx hb (hts _ wd_aci) hK hP hD hS hA (by decide) (by decide) (by decide) (Nat.le_of_ble_eq_true rfl) (Nat.le_of_ble_eq_true rfl) dX3_init_36 (fun q2 H hP hD hS => ?_)
  have hP : va_P D vwCl [(h0, .inr (3, [.int (0 : Int32), .int (0 : Int32), .int (0 : Int32), .int (0 : Int32), .ref q1, .null, .int 0, .null, .null, .null, .null, .null, .null, .null])), (q1, .inl (ar 0, 192, .inl (fun _ => 0))), (q2, .inl (ar 0, 8, .inl (fun _ => 0)))] H := hP
  have hD : va_D A [(h0, .inr (3, [.int (0 : Int32), .int (0 : Int32), .int (0 : Int32), .int (0 : Int32), .ref q1, .null, .int 0, .null, .null, .null, .null, .null, .null, .null])), (q1, .inl (ar 0, 192, .inl (fun _ => 0))), (q2, .inl (ar 0, 8, .inl (fun _ => 0)))] := hD
  refine va_putF (D := D) (ci := 3) (v := .ref q2) (ty := (.array .int)) (C := RX3) (T := TX3) (N := 14) hx hb hts in_X3 tyX3 tyX3_ok nmX3 hown hK hP hD hS 0 rfl rfl 5 (by decide) (hts _ wd_257) (fun _ h9 => h9) rfl hin rfl (by decide +kernel) rfl rfl (Nat.le_of_ble_eq_true rfl) dX3_init_38 (fun H locs hP hD hS => ?_)
  have hP : va_P D vwCl [(h0, .inr (3, [.int (0 : Int32), .int (0 : Int32), .int (0 : Int32), .int (0 : Int32), .ref q1, .ref q2, .int 0, .null, .null, .null, .null, .null, .null, .null])), (q1, .inl (ar 0, 192, .inl (fun _ => 0))), (q2, .inl (ar 0, 8, .inl (fun _ => 0)))] H := hP
  have hD : va_D A [(h0, .inr (3, [.int (0 : Int32), .int (0 : Int32), .int (0 : Int32), .int (0 : Int32), .ref q1, .ref q2, .int 0, .null, .null, .null, .null, .null, .null, .null])), (q1, .inl (ar 0, 192, .inl (fun _ => 0))), (q2, .inl (ar 0, 8, .inl (fun _ => 0)))] := hD
  refine lv_aload_n hx hb dX3_init_41 rfl (lv_at hl 0 rfl) ?_
  refine lv_iconst (v := (0 : Int32)) hx hb dX3_init_42 (by decide) ?_
  refine va_put (D := D) (ci := 3) (v := .int (0 : Int32)) (ty := .int) (C := RX3) (T := TX3) (N := 14) hx hb hts in_X3 tyX3 tyX3_ok nmX3 hown hK hP hD hS 0 rfl rfl 6 (by decide) (hts _ wd_258) (fun _ h9 => h9) rfl (by decide +kernel) rfl rfl (Nat.le_of_ble_eq_true rfl) dX3_init_43 (fun H locs hP hD hS => ?_)
  have hP : va_P D vwCl [(h0, .inr (3, [.int (0 : Int32), .int (0 : Int32), .int (0 : Int32), .int (0 : Int32), .ref q1, .ref q2, .int (0 : Int32), .null, .null, .null, .null, .null, .null, .null])), (q1, .inl (ar 0, 192, .inl (fun _ => 0))), (q2, .inl (ar 0, 8, .inl (fun _ => 0)))] H := hP
  have hD : va_D A [(h0, .inr (3, [.int (0 : Int32), .int (0 : Int32), .int (0 : Int32), .int (0 : Int32), .ref q1, .ref q2, .int (0 : Int32), .null, .null, .null, .null, .null, .null, .null])), (q1, .inl (ar 0, 192, .inl (fun _ => 0))), (q2, .inl (ar 0, 8, .inl (fun _ => 0)))] := hD
  refine lv_aload_n hx hb dX3_init_46 rfl (lv_at hl 0 rfl) ?_
  refine lv_bipush (v := (24 : Int32)) hx hb dX3_init_47 (by decide) ?_
  refine na_i (N' := 24) hx hb (hts _ wd_aci) hK hP hD hS hA (by decide) (by decide) (by decide) (Nat.le_of_ble_eq_true rfl) (Nat.le_of_ble_eq_true rfl) dX3_init_49 (fun q3 H hP hD hS => ?_)
  have hP : va_P D vwCl [(h0, .inr (3, [.int (0 : Int32), .int (0 : Int32), .int (0 : Int32), .int (0 : Int32), .ref q1, .ref q2, .int (0 : Int32), .null, .null, .null, .null, .null, .null, .null])), (q1, .inl (ar 0, 192, .inl (fun _ => 0))), (q2, .inl (ar 0, 8, .inl (fun _ => 0))), (q3, .inl (ar 0, 24, .inl (fun _ => 0)))] H := hP
  have hD : va_D A [(h0, .inr (3, [.int (0 : Int32), .int (0 : Int32), .int (0 : Int32), .int (0 : Int32), .ref q1, .ref q2, .int (0 : Int32), .null, .null, .null, .null, .null, .null, .null])), (q1, .inl (ar 0, 192, .inl (fun _ => 0))), (q2, .inl (ar 0, 8, .inl (fun _ => 0))), (q3, .inl (ar 0, 24, .inl (fun _ => 0)))] := hD
  refine va_putF (D := D) (ci := 3) (v := .ref q3) (ty := (.array .int)) (C := RX3) (T := TX3) (N := 14) hx hb hts in_X3 tyX3 tyX3_ok nmX3 hown hK hP hD hS 0 rfl rfl 7 (by decide) (hts _ wd_259) (fun _ h9 => h9) rfl hin rfl (by decide +kernel) rfl rfl (Nat.le_of_ble_eq_true rfl) dX3_init_51 (fun H locs hP hD hS => ?_)
  have hP : va_P D vwCl [(h0, .inr (3, [.int (0 : Int32), .int (0 : Int32), .int (0 : Int32), .int (0 : Int32), .ref q1, .ref q2, .int (0 : Int32), .ref q3, .null, .null, .null, .null, .null, .null])), (q1, .inl (ar 0, 192, .inl (fun _ => 0))), (q2, .inl (ar 0, 8, .inl (fun _ => 0))), (q3, .inl (ar 0, 24, .inl (fun _ => 0)))] H := hP
  have hD : va_D A [(h0, .inr (3, [.int (0 : Int32), .int (0 : Int32), .int (0 : Int32), .int (0 : Int32), .ref q1, .ref q2, .int (0 : Int32), .ref q3, .null, .null, .null, .null, .null, .null])), (q1, .inl (ar 0, 192, .inl (fun _ => 0))), (q2, .inl (ar 0, 8, .inl (fun _ => 0))), (q3, .inl (ar 0, 24, .inl (fun _ => 0)))] := hD
  refine lv_aload_n hx hb dX3_init_54 rfl (lv_at hl 0 rfl) ?_
  refine lv_bipush (v := (24 : Int32)) hx hb dX3_init_55 (by decide) ?_
  refine na_i (N' := 24) hx hb (hts _ wd_aci) hK hP hD hS hA (by decide) (by decide) (by decide) (Nat.le_of_ble_eq_true rfl) (Nat.le_of_ble_eq_true rfl) dX3_init_57 (fun q4 H hP hD hS => ?_)
  have hP : va_P D vwCl [(h0, .inr (3, [.int (0 : Int32), .int (0 : Int32), .int (0 : Int32), .int (0 : Int32), .ref q1, .ref q2, .int (0 : Int32), .ref q3, .null, .null, .null, .null, .null, .null])), (q1, .inl (ar 0, 192, .inl (fun _ => 0))), (q2, .inl (ar 0, 8, .inl (fun _ => 0))), (q3, .inl (ar 0, 24, .inl (fun _ => 0))), (q4, .inl (ar 0, 24, .inl (fun _ => 0)))] H := hP
  have hD : va_D A [(h0, .inr (3, [.int (0 : Int32), .int (0 : Int32), .int (0 : Int32), .int (0 : Int32), .ref q1, .ref q2, .int (0 : Int32), .ref q3, .null, .null, .null, .null, .null, .null])), (q1, .inl (ar 0, 192, .inl (fun _ => 0))), (q2, .inl (ar 0, 8, .inl (fun _ => 0))), (q3, .inl (ar 0, 24, .inl (fun _ => 0))), (q4, .inl (ar 0, 24, .inl (fun _ => 0)))] := hD
  refine va_putF (D := D) (ci := 3) (v := .ref q4) (ty := (.array .int)) (C := RX3) (T := TX3) (N := 14) hx hb hts in_X3 tyX3 tyX3_ok nmX3 hown hK hP hD hS 0 rfl rfl 8 (by decide) (hts _ wd_262) (fun _ h9 => h9) rfl hin rfl (by decide +kernel) rfl rfl (Nat.le_of_ble_eq_true rfl) dX3_init_59 (fun H locs hP hD hS => ?_)
  have hP : va_P D vwCl [(h0, .inr (3, [.int (0 : Int32), .int (0 : Int32), .int (0 : Int32), .int (0 : Int32), .ref q1, .ref q2, .int (0 : Int32), .ref q3, .ref q4, .null, .null, .null, .null, .null])), (q1, .inl (ar 0, 192, .inl (fun _ => 0))), (q2, .inl (ar 0, 8, .inl (fun _ => 0))), (q3, .inl (ar 0, 24, .inl (fun _ => 0))), (q4, .inl (ar 0, 24, .inl (fun _ => 0)))] H := hP
  have hD : va_D A [(h0, .inr (3, [.int (0 : Int32), .int (0 : Int32), .int (0 : Int32), .int (0 : Int32), .ref q1, .ref q2, .int (0 : Int32), .ref q3, .ref q4, .null, .null, .null, .null, .null])), (q1, .inl (ar 0, 192, .inl (fun _ => 0))), (q2, .inl (ar 0, 8, .inl (fun _ => 0))), (q3, .inl (ar 0, 24, .inl (fun _ => 0))), (q4, .inl (ar 0, 24, .inl (fun _ => 0)))] := hD
  refine lv_aload_n hx hb dX3_init_62 rfl (lv_at hl 0 rfl) ?_
  refine lv_bipush (v := (24 : Int32)) hx hb dX3_init_63 (by decide) ?_
  refine na_i (N' := 24) hx hb (hts _ wd_aci) hK hP hD hS hA (by decide) (by decide) (by decide) (Nat.le_of_ble_eq_true rfl) (Nat.le_of_ble_eq_true rfl) dX3_init_65 (fun q5 H hP hD hS => ?_)
  have hP : va_P D vwCl [(h0, .inr (3, [.int (0 : Int32), .int (0 : Int32), .int (0 : Int32), .int (0 : Int32), .ref q1, .ref q2, .int (0 : Int32), .ref q3, .ref q4, .null, .null, .null, .null, .null])), (q1, .inl (ar 0, 192, .inl (fun _ => 0))), (q2, .inl (ar 0, 8, .inl (fun _ => 0))), (q3, .inl (ar 0, 24, .inl (fun _ => 0))), (q4, .inl (ar 0, 24, .inl (fun _ => 0))), (q5, .inl (ar 0, 24, .inl (fun _ => 0)))] H := hP
  have hD : va_D A [(h0, .inr (3, [.int (0 : Int32), .int (0 : Int32), .int (0 : Int32), .int (0 : Int32), .ref q1, .ref q2, .int (0 : Int32), .ref q3, .ref q4, .null, .null, .null, .null, .null])), (q1, .inl (ar 0, 192, .inl (fun _ => 0))), (q2, .inl (ar 0, 8, .inl (fun _ => 0))), (q3, .inl (ar 0, 24, .inl (fun _ => 0))), (q4, .inl (ar 0, 24, .inl (fun _ => 0))), (q5, .inl (ar 0, 24, .inl (fun _ => 0)))] := hD
  refine va_putF (D := D) (ci := 3) (v := .ref q5) (ty := (.array .int)) (C := RX3) (T := TX3) (N := 14) hx hb hts in_X3 tyX3 tyX3_ok nmX3 hown hK hP hD hS 0 rfl rfl 9 (by decide) (hts _ wd_265) (fun _ h9 => h9) rfl hin rfl (by decide +kernel) rfl rfl (Nat.le_of_ble_eq_true rfl) dX3_init_67 (fun H locs hP hD hS => ?_)
  have hP : va_P D vwCl [(h0, .inr (3, [.int (0 : Int32), .int (0 : Int32), .int (0 : Int32), .int (0 : Int32), .ref q1, .ref q2, .int (0 : Int32), .ref q3, .ref q4, .ref q5, .null, .null, .null, .null])), (q1, .inl (ar 0, 192, .inl (fun _ => 0))), (q2, .inl (ar 0, 8, .inl (fun _ => 0))), (q3, .inl (ar 0, 24, .inl (fun _ => 0))), (q4, .inl (ar 0, 24, .inl (fun _ => 0))), (q5, .inl (ar 0, 24, .inl (fun _ => 0)))] H := hP
  have hD : va_D A [(h0, .inr (3, [.int (0 : Int32), .int (0 : Int32), .int (0 : Int32), .int (0 : Int32), .ref q1, .ref q2, .int (0 : Int32), .ref q3, .ref q4, .ref q5, .null, .null, .null, .null])), (q1, .inl (ar 0, 192, .inl (fun _ => 0))), (q2, .inl (ar 0, 8, .inl (fun _ => 0))), (q3, .inl (ar 0, 24, .inl (fun _ => 0))), (q4, .inl (ar 0, 24, .inl (fun _ => 0))), (q5, .inl (ar 0, 24, .inl (fun _ => 0)))] := hD
  refine lv_aload_n hx hb dX3_init_70 rfl (lv_at hl 0 rfl) ?_
  refine lv_bipush (v := (24 : Int32)) hx hb dX3_init_71 (by decide) ?_
  refine na_i (N' := 24) hx hb (hts _ wd_aci) hK hP hD hS hA (by decide) (by decide) (by decide) (Nat.le_of_ble_eq_true rfl) (Nat.le_of_ble_eq_true rfl) dX3_init_73 (fun q6 H hP hD hS => ?_)
  have hP : va_P D vwCl [(h0, .inr (3, [.int (0 : Int32), .int (0 : Int32), .int (0 : Int32), .int (0 : Int32), .ref q1, .ref q2, .int (0 : Int32), .ref q3, .ref q4, .ref q5, .null, .null, .null, .null])), (q1, .inl (ar 0, 192, .inl (fun _ => 0))), (q2, .inl (ar 0, 8, .inl (fun _ => 0))), (q3, .inl (ar 0, 24, .inl (fun _ => 0))), (q4, .inl (ar 0, 24, .inl (fun _ => 0))), (q5, .inl (ar 0, 24, .inl (fun _ => 0))), (q6, .inl (ar 0, 24, .inl (fun _ => 0)))] H := hP
  have hD : va_D A [(h0, .inr (3, [.int (0 : Int32), .int (0 : Int32), .int (0 : Int32), .int (0 : Int32), .ref q1, .ref q2, .int (0 : Int32), .ref q3, .ref q4, .ref q5, .null, .null, .null, .null])), (q1, .inl (ar 0, 192, .inl (fun _ => 0))), (q2, .inl (ar 0, 8, .inl (fun _ => 0))), (q3, .inl (ar 0, 24, .inl (fun _ => 0))), (q4, .inl (ar 0, 24, .inl (fun _ => 0))), (q5, .inl (ar 0, 24, .inl (fun _ => 0))), (q6, .inl (ar 0, 24, .inl (fun _ => 0)))] := hD
  refine va_putF (D := D) (ci := 3) (v := .ref q6) (ty := (.array .int)) (C := RX3) (T := TX3) (N := 14) hx hb hts in_X3 tyX3 tyX3_ok nmX3 hown hK hP hD hS 0 rfl rfl 10 (by decide) (hts _ wd_266) (fun _ h9 => h9) rfl hin rfl (by decide +kernel) rfl rfl (Nat.le_of_ble_eq_true rfl) dX3_init_75 (fun H locs hP hD hS => ?_)
  have hP : va_P D vwCl [(h0, .inr (3, [.int (0 : Int32), .int (0 : Int32), .int (0 : Int32), .int (0 : Int32), .ref q1, .ref q2, .int (0 : Int32), .ref q3, .ref q4, .ref q5, .ref q6, .null, .null, .null])), (q1, .inl (ar 0, 192, .inl (fun _ => 0))), (q2, .inl (ar 0, 8, .inl (fun _ => 0))), (q3, .inl (ar 0, 24, .inl (fun _ => 0))), (q4, .inl (ar 0, 24, .inl (fun _ => 0))), (q5, .inl (ar 0, 24, .inl (fun _ => 0))), (q6, .inl (ar 0, 24, .inl (fun _ => 0)))] H := hP
  have hD : va_D A [(h0, .inr (3, [.int (0 : Int32), .int (0 : Int32), .int (0 : Int32), .int (0 : Int32), .ref q1, .ref q2, .int (0 : Int32), .ref q3, .ref q4, .ref q5, .ref q6, .null, .null, .null])), (q1, .inl (ar 0, 192, .inl (fun _ => 0))), (q2, .inl (ar 0, 8, .inl (fun _ => 0))), (q3, .inl (ar 0, 24, .inl (fun _ => 0))), (q4, .inl (ar 0, 24, .inl (fun _ => 0))), (q5, .inl (ar 0, 24, .inl (fun _ => 0))), (q6, .inl (ar 0, 24, .inl (fun _ => 0)))] := hD
  refine lv_aload_n hx hb dX3_init_78 rfl (lv_at hl 0 rfl) ?_
  refine lv_bipush (v := (24 : Int32)) hx hb dX3_init_79 (by decide) ?_
  refine na_i (N' := 24) hx hb (hts _ wd_aci) hK hP hD hS hA (by decide) (by decide) (by decide) (Nat.le_of_ble_eq_true rfl) (Nat.le_of_ble_eq_true rfl) dX3_init_81 (fun q7 H hP hD hS => ?_)
  have hP : va_P D vwCl [(h0, .inr (3, [.int (0 : Int32), .int (0 : Int32), .int (0 : Int32), .int (0 : Int32), .ref q1, .ref q2, .int (0 : Int32), .ref q3, .ref q4, .ref q5, .ref q6, .null, .null, .null])), (q1, .inl (ar 0, 192, .inl (fun _ => 0))), (q2, .inl (ar 0, 8, .inl (fun _ => 0))), (q3, .inl (ar 0, 24, .inl (fun _ => 0))), (q4, .inl (ar 0, 24, .inl (fun _ => 0))), (q5, .inl (ar 0, 24, .inl (fun _ => 0))), (q6, .inl (ar 0, 24, .inl (fun _ => 0))), (q7, .inl (ar 0, 24, .inl (fun _ => 0)))] H := hP
  have hD : va_D A [(h0, .inr (3, [.int (0 : Int32), .int (0 : Int32), .int (0 : Int32), .int (0 : Int32), .ref q1, .ref q2, .int (0 : Int32), .ref q3, .ref q4, .ref q5, .ref q6, .null, .null, .null])), (q1, .inl (ar 0, 192, .inl (fun _ => 0))), (q2, .inl (ar 0, 8, .inl (fun _ => 0))), (q3, .inl (ar 0, 24, .inl (fun _ => 0))), (q4, .inl (ar 0, 24, .inl (fun _ => 0))), (q5, .inl (ar 0, 24, .inl (fun _ => 0))), (q6, .inl (ar 0, 24, .inl (fun _ => 0))), (q7, .inl (ar 0, 24, .inl (fun _ => 0)))] := hD
  refine va_putF (D := D) (ci := 3) (v := .ref q7) (ty := (.array .int)) (C := RX3) (T := TX3) (N := 14) hx hb hts in_X3 tyX3 tyX3_ok nmX3 hown hK hP hD hS 0 rfl rfl 11 (by decide) (hts _ wd_267) (fun _ h9 => h9) rfl hin rfl (by decide +kernel) rfl rfl (Nat.le_of_ble_eq_true rfl) dX3_init_83 (fun H locs hP hD hS => ?_)
  have hP : va_P D vwCl [(h0, .inr (3, [.int (0 : Int32), .int (0 : Int32), .int (0 : Int32), .int (0 : Int32), .ref q1, .ref q2, .int (0 : Int32), .ref q3, .ref q4, .ref q5, .ref q6, .ref q7, .null, .null])), (q1, .inl (ar 0, 192, .inl (fun _ => 0))), (q2, .inl (ar 0, 8, .inl (fun _ => 0))), (q3, .inl (ar 0, 24, .inl (fun _ => 0))), (q4, .inl (ar 0, 24, .inl (fun _ => 0))), (q5, .inl (ar 0, 24, .inl (fun _ => 0))), (q6, .inl (ar 0, 24, .inl (fun _ => 0))), (q7, .inl (ar 0, 24, .inl (fun _ => 0)))] H := hP
  have hD : va_D A [(h0, .inr (3, [.int (0 : Int32), .int (0 : Int32), .int (0 : Int32), .int (0 : Int32), .ref q1, .ref q2, .int (0 : Int32), .ref q3, .ref q4, .ref q5, .ref q6, .ref q7, .null, .null])), (q1, .inl (ar 0, 192, .inl (fun _ => 0))), (q2, .inl (ar 0, 8, .inl (fun _ => 0))), (q3, .inl (ar 0, 24, .inl (fun _ => 0))), (q4, .inl (ar 0, 24, .inl (fun _ => 0))), (q5, .inl (ar 0, 24, .inl (fun _ => 0))), (q6, .inl (ar 0, 24, .inl (fun _ => 0))), (q7, .inl (ar 0, 24, .inl (fun _ => 0)))] := hD
  refine lv_aload_n hx hb dX3_init_86 rfl (lv_at hl 0 rfl) ?_
  refine lv_bipush (v := (8 : Int32)) hx hb dX3_init_87 (by decide) ?_
  refine na_i (N' := 8) hx hb (hts _ wd_aci) hK hP hD hS hA (by decide) (by decide) (by decide) (Nat.le_of_ble_eq_true rfl) (Nat.le_of_ble_eq_true rfl) dX3_init_89 (fun q8 H hP hD hS => ?_)
  have hP : va_P D vwCl [(h0, .inr (3, [.int (0 : Int32), .int (0 : Int32), .int (0 : Int32), .int (0 : Int32), .ref q1, .ref q2, .int (0 : Int32), .ref q3, .ref q4, .ref q5, .ref q6, .ref q7, .null, .null])), (q1, .inl (ar 0, 192, .inl (fun _ => 0))), (q2, .inl (ar 0, 8, .inl (fun _ => 0))), (q3, .inl (ar 0, 24, .inl (fun _ => 0))), (q4, .inl (ar 0, 24, .inl (fun _ => 0))), (q5, .inl (ar 0, 24, .inl (fun _ => 0))), (q6, .inl (ar 0, 24, .inl (fun _ => 0))), (q7, .inl (ar 0, 24, .inl (fun _ => 0))), (q8, .inl (ar 0, 8, .inl (fun _ => 0)))] H := hP
  have hD : va_D A [(h0, .inr (3, [.int (0 : Int32), .int (0 : Int32), .int (0 : Int32), .int (0 : Int32), .ref q1, .ref q2, .int (0 : Int32), .ref q3, .ref q4, .ref q5, .ref q6, .ref q7, .null, .null])), (q1, .inl (ar 0, 192, .inl (fun _ => 0))), (q2, .inl (ar 0, 8, .inl (fun _ => 0))), (q3, .inl (ar 0, 24, .inl (fun _ => 0))), (q4, .inl (ar 0, 24, .inl (fun _ => 0))), (q5, .inl (ar 0, 24, .inl (fun _ => 0))), (q6, .inl (ar 0, 24, .inl (fun _ => 0))), (q7, .inl (ar 0, 24, .inl (fun _ => 0))), (q8, .inl (ar 0, 8, .inl (fun _ => 0)))] := hD
  refine va_putF (D := D) (ci := 3) (v := .ref q8) (ty := (.array .int)) (C := RX3) (T := TX3) (N := 14) hx hb hts in_X3 tyX3 tyX3_ok nmX3 hown hK hP hD hS 0 rfl rfl 12 (by decide) (hts _ wd_269) (fun _ h9 => h9) rfl hin rfl (by decide +kernel) rfl rfl (Nat.le_of_ble_eq_true rfl) dX3_init_91 (fun H locs hP hD hS => ?_)
  have hP : va_P D vwCl [(h0, .inr (3, [.int (0 : Int32), .int (0 : Int32), .int (0 : Int32), .int (0 : Int32), .ref q1, .ref q2, .int (0 : Int32), .ref q3, .ref q4, .ref q5, .ref q6, .ref q7, .ref q8, .null])), (q1, .inl (ar 0, 192, .inl (fun _ => 0))), (q2, .inl (ar 0, 8, .inl (fun _ => 0))), (q3, .inl (ar 0, 24, .inl (fun _ => 0))), (q4, .inl (ar 0, 24, .inl (fun _ => 0))), (q5, .inl (ar 0, 24, .inl (fun _ => 0))), (q6, .inl (ar 0, 24, .inl (fun _ => 0))), (q7, .inl (ar 0, 24, .inl (fun _ => 0))), (q8, .inl (ar 0, 8, .inl (fun _ => 0)))] H := hP
  have hD : va_D A [(h0, .inr (3, [.int (0 : Int32), .int (0 : Int32), .int (0 : Int32), .int (0 : Int32), .ref q1, .ref q2, .int (0 : Int32), .ref q3, .ref q4, .ref q5, .ref q6, .ref q7, .ref q8, .null])), (q1, .inl (ar 0, 192, .inl (fun _ => 0))), (q2, .inl (ar 0, 8, .inl (fun _ => 0))), (q3, .inl (ar 0, 24, .inl (fun _ => 0))), (q4, .inl (ar 0, 24, .inl (fun _ => 0))), (q5, .inl (ar 0, 24, .inl (fun _ => 0))), (q6, .inl (ar 0, 24, .inl (fun _ => 0))), (q7, .inl (ar 0, 24, .inl (fun _ => 0))), (q8, .inl (ar 0, 8, .inl (fun _ => 0)))] := hD
  refine lv_aload_n hx hb dX3_init_94 rfl (lv_at hl 0 rfl) ?_
  refine lv_bipush (v := (8 : Int32)) hx hb dX3_init_95 (by decide) ?_
  refine na_i (N' := 8) hx hb (hts _ wd_aci) hK hP hD hS hA (by decide) (by decide) (by decide) (Nat.le_of_ble_eq_true rfl) (Nat.le_of_ble_eq_true rfl) dX3_init_97 (fun q9 H hP hD hS => ?_)
  have hP : va_P D vwCl [(h0, .inr (3, [.int (0 : Int32), .int (0 : Int32), .int (0 : Int32), .int (0 : Int32), .ref q1, .ref q2, .int (0 : Int32), .ref q3, .ref q4, .ref q5, .ref q6, .ref q7, .ref q8, .null])), (q1, .inl (ar 0, 192, .inl (fun _ => 0))), (q2, .inl (ar 0, 8, .inl (fun _ => 0))), (q3, .inl (ar 0, 24, .inl (fun _ => 0))), (q4, .inl (ar 0, 24, .inl (fun _ => 0))), (q5, .inl (ar 0, 24, .inl (fun _ => 0))), (q6, .inl (ar 0, 24, .inl (fun _ => 0))), (q7, .inl (ar 0, 24, .inl (fun _ => 0))), (q8, .inl (ar 0, 8, .inl (fun _ => 0))), (q9, .inl (ar 0, 8, .inl (fun _ => 0)))] H := hP
  have hD : va_D A [(h0, .inr (3, [.int (0 : Int32), .int (0 : Int32), .int (0 : Int32), .int (0 : Int32), .ref q1, .ref q2, .int (0 : Int32), .ref q3, .ref q4, .ref q5, .ref q6, .ref q7, .ref q8, .null])), (q1, .inl (ar 0, 192, .inl (fun _ => 0))), (q2, .inl (ar 0, 8, .inl (fun _ => 0))), (q3, .inl (ar 0, 24, .inl (fun _ => 0))), (q4, .inl (ar 0, 24, .inl (fun _ => 0))), (q5, .inl (ar 0, 24, .inl (fun _ => 0))), (q6, .inl (ar 0, 24, .inl (fun _ => 0))), (q7, .inl (ar 0, 24, .inl (fun _ => 0))), (q8, .inl (ar 0, 8, .inl (fun _ => 0))), (q9, .inl (ar 0, 8, .inl (fun _ => 0)))] := hD
  refine va_putF (D := D) (ci := 3) (v := .ref q9) (ty := (.array .int)) (C := RX3) (T := TX3) (N := 14) hx hb hts in_X3 tyX3 tyX3_ok nmX3 hown hK hP hD hS 0 rfl rfl 13 (by decide) (hts _ wd_270) (fun _ h9 => h9) rfl hin rfl (by decide +kernel) rfl rfl (Nat.le_of_ble_eq_true rfl) dX3_init_99 (fun H locs hP hD hS => ?_)
  have hP : va_P D vwCl [(h0, .inr (3, [.int (0 : Int32), .int (0 : Int32), .int (0 : Int32), .int (0 : Int32), .ref q1, .ref q2, .int (0 : Int32), .ref q3, .ref q4, .ref q5, .ref q6, .ref q7, .ref q8, .ref q9])), (q1, .inl (ar 0, 192, .inl (fun _ => 0))), (q2, .inl (ar 0, 8, .inl (fun _ => 0))), (q3, .inl (ar 0, 24, .inl (fun _ => 0))), (q4, .inl (ar 0, 24, .inl (fun _ => 0))), (q5, .inl (ar 0, 24, .inl (fun _ => 0))), (q6, .inl (ar 0, 24, .inl (fun _ => 0))), (q7, .inl (ar 0, 24, .inl (fun _ => 0))), (q8, .inl (ar 0, 8, .inl (fun _ => 0))), (q9, .inl (ar 0, 8, .inl (fun _ => 0)))] H := hP
  have hD : va_D A [(h0, .inr (3, [.int (0 : Int32), .int (0 : Int32), .int (0 : Int32), .int (0 : Int32), .ref q1, .ref q2, .int (0 : Int32), .ref q3, .ref q4, .ref q5, .ref q6, .ref q7, .ref q8, .ref q9])), (q1, .inl (ar 0, 192, .inl (fun _ => 0))), (q2, .inl (ar 0, 8, .inl (fun _ => 0))), (q3, .inl (ar 0, 24, .inl (fun _ => 0))), (q4, .inl (ar 0, 24, .inl (fun _ => 0))), (q5, .inl (ar 0, 24, .inl (fun _ => 0))), (q6, .inl (ar 0, 24, .inl (fun _ => 0))), (q7, .inl (ar 0, 24, .inl (fun _ => 0))), (q8, .inl (ar 0, 8, .inl (fun _ => 0))), (q9, .inl (ar 0, 8, .inl (fun _ => 0)))] := hD
  have hP9 := hP.sub (ws' := [(h0, .inr (3, [.int (0 : Int32), .int (0 : Int32), .int (0 : Int32), .int (0 : Int32), .ref q1, .ref q2, .int (0 : Int32), .ref q3, .ref q4, .ref q5, .ref q6, .ref q7, .ref q8, .ref q9])), (q1, .inl (ar 0, 192, .inl (fun _ => 0))), (q2, .inl (ar 0, 8, .inl (fun _ => 0))), (q3, .inl (ar 0, 24, .inl (fun _ => 0))), (q4, .inl (ar 0, 24, .inl (fun _ => 0))), (q5, .inl (ar 0, 24, .inl (fun _ => 0))), (q6, .inl (ar 0, 24, .inl (fun _ => 0))), (q7, .inl (ar 0, 24, .inl (fun _ => 0))), (q8, .inl (ar 0, 8, .inl (fun _ => 0))), (q9, .inl (ar 0, 8, .inl (fun _ => 0)))]) [0, 1, 2, 3, 4, 5, 6, 7, 8, 9] rfl
  have hD9 := hD.sub (ws' := [(h0, .inr (3, [.int (0 : Int32), .int (0 : Int32), .int (0 : Int32), .int (0 : Int32), .ref q1, .ref q2, .int (0 : Int32), .ref q3, .ref q4, .ref q5, .ref q6, .ref q7, .ref q8, .ref q9])), (q1, .inl (ar 0, 192, .inl (fun _ => 0))), (q2, .inl (ar 0, 8, .inl (fun _ => 0))), (q3, .inl (ar 0, 24, .inl (fun _ => 0))), (q4, .inl (ar 0, 24, .inl (fun _ => 0))), (q5, .inl (ar 0, 24, .inl (fun _ => 0))), (q6, .inl (ar 0, 24, .inl (fun _ => 0))), (q7, .inl (ar 0, 24, .inl (fun _ => 0))), (q8, .inl (ar 0, 8, .inl (fun _ => 0))), (q9, .inl (ar 0, 8, .inl (fun _ => 0)))]) [0, 1, 2, 3, 4, 5, 6, 7, 8, 9] (by decide) rfl
  refine W.widen (k := 9) (n := 336) (Nat.le_of_ble_eq_true rfl) (Nat.le_of_ble_eq_true rfl) ?_
  exact W.vret hx hb hr (fun t ht hW => ⟨⟨(fun k => ([q1, q2, q3, q4, q5, q6, q7, q8, q9] : List Nat).getD k 0), rfl, trivial, by rw [ht]; exact hP9, hD9⟩, hS.F ht⟩) hS.2.2 dX3_init_102
theorem dX1_init_0 : decode cX1_init 0 = .ok (.aload_n 0, 1) := by decide +kernel
theorem dX1_init_1 : decode cX1_init 1 = .ok (.invokespecial 3, 3) := by decide +kernel
theorem dX1_init_4 : decode cX1_init 4 = .ok (.aload_n 0, 1) := by decide +kernel
theorem dX1_init_5 : decode cX1_init 5 = .ok (.bipush 96, 2) := by decide +kernel
theorem dX1_init_7 : decode cX1_init 7 = .ok (.newarray .int, 2) := by decide +kernel
theorem dX1_init_9 : decode cX1_init 9 = .ok (.putfield 9, 3) := by decide +kernel
theorem dX1_init_12 : decode cX1_init 12 = .ok (.aload_n 0, 1) := by decide +kernel
theorem dX1_init_13 : decode cX1_init 13 = .ok (.iconst 0, 1) := by decide +kernel
theorem dX1_init_14 : decode cX1_init 14 = .ok (.putfield 15, 3) := by decide +kernel
theorem dX1_init_17 : decode cX1_init 17 = .ok (.aload_n 0, 1) := by decide +kernel
theorem dX1_init_18 : decode cX1_init 18 = .ok (.iconst 0, 1) := by decide +kernel
theorem dX1_init_19 : decode cX1_init 19 = .ok (.putfield 19, 3) := by decide +kernel
theorem dX1_init_22 : decode cX1_init 22 = .ok (.return_, 1) := by decide +kernel
abbrev wi_X1 (ar : Nat → ClassId) (h0 : Nat) (q : Nat → Nat) : va_W := [(h0, .inr (1, [.ref (q 0), .int (0 : Int32), .int (0 : Int32)])), ((q 0), .inl (ar 0, 96, .inl (fun _ => 0)))]
set_option maxRecDepth 100000 in
set_option maxHeartbeats 8000000 in
theorem ci_X1 (l : Launch) (D : va_G) (ar : Nat → ClassId) (h0 : Nat) (sz : Nat) : Met l yX1_init (.code yX1_init cX1_init 1 none :: tb) ({ frames := 1, cells := 1, slots := 96, locals := 20 } : Room) (va_Pc [.ref h0] (fun U => U.heap.size = sz ∧ va_P D vwCl [(h0, .inr (1, [.null, .int 0, .int 0]))] U.heap ∧ va_K D vwCl (sh_t ar) U ∧ va_D (fun _ => True) [(h0, .inr (1, [.null, .int 0, .int 0]))] ∧ nsOk U ∧ va_AO RX6 U)) (va_Qv (fun _ : Nat → Nat => True) (fun q t => va_P D vwCl (wi_X1 ar h0  q) t.heap ∧ va_D (va_A [(h0, .inr (1, [.null, .int 0, .int 0]))] sz) (wi_X1 ar h0  q)) (va_A [(h0, .inr (1, [.null, .int 0, .int 0]))] sz)) 1 96 (va_A [(h0, .inr (1, [.null, .int 0, .int 0]))] sz) := by
  refine Met.ofW (cc := cX1_init) (maxL := 1) (ret := none) (by decide) rfl ?_
  intro p e s m args below meth c s₁ B hml hv
  obtain ⟨rfl, hsz, hP, hK, hD0, hN, hAO⟩ := hv
  have hx := B.exec
  have hb := B.bytes
  have hr := B.returns
  have hts : ∀ w ∈ tb, w.before _ s = true := fun w hw => atoms_spec (ws := .code yX1_init cX1_init 1 none :: tb) B.pre w (List.mem_cons_of_mem _ hw)
  have hown : s.vm.findClass RX1 = some m.cls := findClass_of_methodNamed B.named
  have hlocks := B.notSynchronized
  have hin : meth.name = "<init>" := (name_of_methodNamed B.named B.method).1
  subst hsz
  have hD := hD0.self (sz := s.heap.size)
  generalize hAe : va_A [(h0, .inr (1, [.null, .int 0, .int 0]))] s.heap.size = A at hD ⊢
  have hA : ∀ q : Nat, s.heap.size ≤ q → A q := fun q h => by rw [← hAe]; exact Or.inr h
  have hS : va_S A s.heap s.heap [] := va_S.rf
  have hl := lv_entry ([.ref h0]) (n := 1) (Nat.le_of_ble_eq_true rfl)
  rw [lg_entry_eq]
  generalize (lg_sl ([.ref h0]) ++ List.replicate (1 - (lg_sl ([.ref h0])).length) Slot.unset).toArray = ls at hl ⊢
  have hl : lv_has ls 1 [(0, .ref h0)] := hl
  refine lv_aload_n hx hb dX1_init_0 rfl (lv_at hl 0 rfl) ?_
  refine W.objInit hx hb hown (hts _ wd_305) (hts _ wd_108) (hts _ wd_109) rfl (by rw [hml]; exact hl.1) rfl dX1_init_1 (Nat.le_of_ble_eq_true rfl) (Nat.le_of_ble_eq_true rfl) ?_
  refine W.eq (g2 := F0 m 4 ls []) rfl ?_
  refine lv_aload_n hx hb dX1_init_4 rfl (lv_at hl 0 rfl) ?_
  refine lv_bipush (v := (96 : Int32)) hx hb dX1_init_5 (by decide) ?_
  refine na_i (N' := 96) hx hb (hts _ wd_aci) hK hP hD hS hA (by decide) (by decide) (by decide) (Nat.le_of_ble_eq_true rfl) (Nat.le_of_ble_eq_true rfl) dX1_init_7 (fun q1 H hP hD hS => ?_)
  have hP : va_P D vwCl [(h0, .inr (1, [.null, .int 0, .int 0])), (q1, .inl (ar 0, 96, .inl (fun _ => 0)))] H := hP
  have hD : va_D A [(h0, .inr (1, [.null, .int 0, .int 0])), (q1, .inl (ar 0, 96, .inl (fun _ => 0)))] := hD
  refine va_putF (D := D) (ci := 1) (v := .ref q1) (ty := (.array .int)) (C := RX1) (T := TX1) (N := 3) hx hb hts in_X1 tyX1 tyX1_ok nmX1 hown hK hP hD hS 0 rfl rfl 0 (by decide) (hts _ wd_306) (fun _ h9 => h9) rfl hin rfl (by decide +kernel) rfl rfl (Nat.le_of_ble_eq_true rfl) dX1_init_9 (fun H locs hP hD hS => ?_)
  have hP : va_P D vwCl [(h0, .inr (1, [.ref q1, .int 0, .int 0])), (q1, .inl (ar 0, 96, .inl (fun _ => 0)))] H := hP
  have hD : va_D A [(h0, .inr (1, [.ref q1, .int 0, .int 0])), (q1, .inl (ar 0, 96, .inl (fun _ => 0)))] := hD
  refine lv_aload_n hx hb dX1_init_12 rfl (lv_at hl 0 rfl) ?_
  refine lv_iconst (v := (0 : Int32)) hx hb dX1_init_13 (by decide) ?_
  refine va_put (D := D) (ci := 1) (v := .int (0 : Int32)) (ty := .int) (C := RX1) (T := TX1) (N := 3) hx hb hts in_X1 tyX1 tyX1_ok nmX1 hown hK hP hD hS 0 rfl rfl 1 (by decide) (hts _ wd_307) (fun _ h9 => h9) rfl (by decide +kernel) rfl rfl (Nat.le_of_ble_eq_true rfl) dX1_init_14 (fun H locs hP hD hS => ?_)
  have hP : va_P D vwCl [(h0, .inr (1, [.ref q1, .int (0 : Int32), .int 0])), (q1, .inl (ar 0, 96, .inl (fun _ => 0)))] H := hP
  have hD : va_D A [(h0, .inr (1, [.ref q1, .int (0 : Int32), .int 0])), (q1, .inl (ar 0, 96, .inl (fun _ => 0)))] := hD
  refine lv_aload_n hx hb dX1_init_17 rfl (lv_at hl 0 rfl) ?_
  refine lv_iconst (v := (0 : Int32)) hx hb dX1_init_18 (by decide) ?_
  refine va_put (D := D) (ci := 1) (v := .int (0 : Int32)) (ty := .int) (C := RX1) (T := TX1) (N := 3) hx hb hts in_X1 tyX1 tyX1_ok nmX1 hown hK hP hD hS 0 rfl rfl 2 (by decide) (hts _ wd_308) (fun _ h9 => h9) rfl (by decide +kernel) rfl rfl (Nat.le_of_ble_eq_true rfl) dX1_init_19 (fun H locs hP hD hS => ?_)
  have hP : va_P D vwCl [(h0, .inr (1, [.ref q1, .int (0 : Int32), .int (0 : Int32)])), (q1, .inl (ar 0, 96, .inl (fun _ => 0)))] H := hP
  have hD : va_D A [(h0, .inr (1, [.ref q1, .int (0 : Int32), .int (0 : Int32)])), (q1, .inl (ar 0, 96, .inl (fun _ => 0)))] := hD
  have hP9 := hP.sub (ws' := [(h0, .inr (1, [.ref q1, .int (0 : Int32), .int (0 : Int32)])), (q1, .inl (ar 0, 96, .inl (fun _ => 0)))]) [0, 1] rfl
  have hD9 := hD.sub (ws' := [(h0, .inr (1, [.ref q1, .int (0 : Int32), .int (0 : Int32)])), (q1, .inl (ar 0, 96, .inl (fun _ => 0)))]) [0, 1] (by decide) rfl
  refine W.widen (k := 1) (n := 96) (Nat.le_of_ble_eq_true rfl) (Nat.le_of_ble_eq_true rfl) ?_
  exact W.vret hx hb hr (fun t ht hW => ⟨⟨(fun k => ([q1] : List Nat).getD k 0), rfl, trivial, by rw [ht]; exact hP9, hD9⟩, hS.F ht⟩) hS.2.2 dX1_init_22
theorem dX0_init_0 : decode cX0_init 0 = .ok (.aload_n 0, 1) := by decide +kernel
theorem dX0_init_1 : decode cX0_init 1 = .ok (.invokespecial 1, 3) := by decide +kernel
theorem dX0_init_4 : decode cX0_init 4 = .ok (.aload_n 0, 1) := by decide +kernel
theorem dX0_init_5 : decode cX0_init 5 = .ok (.iconst 0, 1) := by decide +kernel
theorem dX0_init_6 : decode cX0_init 6 = .ok (.putfield 7, 3) := by decide +kernel
theorem dX0_init_9 : decode cX0_init 9 = .ok (.aload_n 0, 1) := by decide +kernel
theorem dX0_init_10 : decode cX0_init 10 = .ok (.new 13, 3) := by decide +kernel
theorem dX0_init_13 : decode cX0_init 13 = .ok (.dup, 1) := by decide +kernel
theorem dX0_init_14 : decode cX0_init 14 = .ok (.invokespecial 15, 3) := by decide +kernel
theorem dX0_init_17 : decode cX0_init 17 = .ok (.putfield 16, 3) := by decide +kernel
theorem dX0_init_20 : decode cX0_init 20 = .ok (.aload_n 0, 1) := by decide +kernel
theorem dX0_init_21 : decode cX0_init 21 = .ok (.new 20, 3) := by decide +kernel
theorem dX0_init_24 : decode cX0_init 24 = .ok (.dup, 1) := by decide +kernel
theorem dX0_init_25 : decode cX0_init 25 = .ok (.invokespecial 22, 3) := by decide +kernel
theorem dX0_init_28 : decode cX0_init 28 = .ok (.putfield 23, 3) := by decide +kernel
theorem dX0_init_31 : decode cX0_init 31 = .ok (.aload_n 0, 1) := by decide +kernel
theorem dX0_init_32 : decode cX0_init 32 = .ok (.new 27, 3) := by decide +kernel
theorem dX0_init_35 : decode cX0_init 35 = .ok (.dup, 1) := by decide +kernel
theorem dX0_init_36 : decode cX0_init 36 = .ok (.invokespecial 29, 3) := by decide +kernel
theorem dX0_init_39 : decode cX0_init 39 = .ok (.putfield 30, 3) := by decide +kernel
theorem dX0_init_42 : decode cX0_init 42 = .ok (.aload_n 0, 1) := by decide +kernel
theorem dX0_init_43 : decode cX0_init 43 = .ok (.aload_n 1, 1) := by decide +kernel
theorem dX0_init_44 : decode cX0_init 44 = .ok (.putfield 34, 3) := by decide +kernel
theorem dX0_init_47 : decode cX0_init 47 = .ok (.return_, 1) := by decide +kernel
abbrev wi_X0 (ar : Nat → ClassId) (h0 : Nat) (h1 : Nat) (q : Nat → Nat) : va_W := [(h0, .inr (0, [.ref h1, .int (0 : Int32), .ref (q 0), .ref (q 8), .ref (q 18)])), ((q 0), .inr (2, [.ref (q 1), .ref (q 2), .ref (q 3), .ref (q 4), .ref (q 5), .ref (q 6), .ref (q 7), .int (0 : Int32), .int (0 : Int32)])), ((q 1), .inl (ar 0, 24, .inl (fun _ => 0))), ((q 2), .inl (ar 0, 24, .inl (fun _ => 0))), ((q 3), .inl (ar 0, 24, .inl (fun _ => 0))), ((q 4), .inl (ar 0, 24, .inl (fun _ => 0))), ((q 5), .inl (ar 0, 24, .inl (fun _ => 0))), ((q 6), .inl (ar 0, 24, .inl (fun _ => 0))), ((q 7), .inl (ar 0, 8, .inl (fun _ => 0))), ((q 8), .inr (3, [.int (0 : Int32), .int (0 : Int32), .int (0 : Int32), .int (0 : Int32), .ref (q 9), .ref (q 10), .int (0 : Int32), .ref (q 11), .ref (q 12), .ref (q 13), .ref (q 14), .ref (q 15), .ref (q 16), .ref (q 17)])), ((q 9), .inl (ar 0, 192, .inl (fun _ => 0))), ((q 10), .inl (ar 0, 8, .inl (fun _ => 0))), ((q 11), .inl (ar 0, 24, .inl (fun _ => 0))), ((q 12), .inl (ar 0, 24, .inl (fun _ => 0))), ((q 13), .inl (ar 0, 24, .inl (fun _ => 0))), ((q 14), .inl (ar 0, 24, .inl (fun _ => 0))), ((q 15), .inl (ar 0, 24, .inl (fun _ => 0))), ((q 16), .inl (ar 0, 8, .inl (fun _ => 0))), ((q 17), .inl (ar 0, 8, .inl (fun _ => 0))), ((q 18), .inr (1, [.ref (q 19), .int (0 : Int32), .int (0 : Int32)])), ((q 19), .inl (ar 0, 96, .inl (fun _ => 0)))]
set_option maxRecDepth 100000 in
set_option maxHeartbeats 8000000 in
theorem ci_X0 (l : Launch) (D : va_G) (ar : Nat → ClassId) (h0 : Nat) (h1 : Nat) (sz : Nat) : Met l yX0_init (.code yX0_init cX0_init 2 none :: tb) ({ frames := 2, cells := 20, slots := 610, locals := 40 } : Room) (va_Pc [.ref h0, .ref h1] (fun U => U.heap.size = sz ∧ va_P D vwCl [(h0, .inr (0, [.null, .int 0, .null, .null, .null]))] U.heap ∧ va_K D vwCl (sh_t ar) U ∧ va_D (fun _ => True) [(h0, .inr (0, [.null, .int 0, .null, .null, .null]))] ∧ nsOk U ∧ va_AO RX6 U)) (va_Qv (fun _ : Nat → Nat => True) (fun q t => va_P D vwCl (wi_X0 ar h0 h1 q) t.heap ∧ va_D (va_A [(h0, .inr (0, [.null, .int 0, .null, .null, .null]))] sz) (wi_X0 ar h0 h1 q)) (va_A [(h0, .inr (0, [.null, .int 0, .null, .null, .null]))] sz)) 20 610 (va_A [(h0, .inr (0, [.null, .int 0, .null, .null, .null]))] sz) := by
  refine Met.ofW (cc := cX0_init) (maxL := 2) (ret := none) (by decide) rfl ?_
  intro p e s m args below meth c s₁ B hml hv
  obtain ⟨rfl, hsz, hP, hK, hD0, hN, hAO⟩ := hv
  have hx := B.exec
  have hb := B.bytes
  have hr := B.returns
  have hts : ∀ w ∈ tb, w.before _ s = true := fun w hw => atoms_spec (ws := .code yX0_init cX0_init 2 none :: tb) B.pre w (List.mem_cons_of_mem _ hw)
  have hown : s.vm.findClass RX0 = some m.cls := findClass_of_methodNamed B.named
  have hlocks := B.notSynchronized
  have hin : meth.name = "<init>" := (name_of_methodNamed B.named B.method).1
  subst hsz
  have hD := hD0.self (sz := s.heap.size)
  generalize hAe : va_A [(h0, .inr (0, [.null, .int 0, .null, .null, .null]))] s.heap.size = A at hD ⊢
  have hA : ∀ q : Nat, s.heap.size ≤ q → A q := fun q h => by rw [← hAe]; exact Or.inr h
  have hS : va_S A s.heap s.heap [] := va_S.rf
  have hl := lv_entry ([.ref h0, .ref h1]) (n := 2) (Nat.le_of_ble_eq_true rfl)
  rw [lg_entry_eq]
  generalize (lg_sl ([.ref h0, .ref h1]) ++ List.replicate (2 - (lg_sl ([.ref h0, .ref h1])).length) Slot.unset).toArray = ls at hl ⊢
  have hl : lv_has ls 2 [(0, .ref h0), (1, .ref h1)] := hl
  refine lv_aload_n hx hb dX0_init_0 rfl (lv_at hl 0 rfl) ?_
  refine W.objInit hx hb hown (hts _ wd_192) (hts _ wd_108) (hts _ wd_109) rfl (by rw [hml]; exact hl.1) rfl dX0_init_1 (Nat.le_of_ble_eq_true rfl) (Nat.le_of_ble_eq_true rfl) ?_
  refine W.eq (g2 := F0 m 4 ls []) rfl ?_
  refine lv_aload_n hx hb dX0_init_4 rfl (lv_at hl 0 rfl) ?_
  refine lv_iconst (v := (0 : Int32)) hx hb dX0_init_5 (by decide) ?_
  refine va_put (D := D) (ci := 0) (v := .int (0 : Int32)) (ty := .boolean) (C := RX0) (T := TX0) (N := 5) hx hb hts in_X0 tyX0 tyX0_ok nmX0 hown hK hP hD hS 0 rfl rfl 1 (by decide) (hts _ wd_319) (fun _ h9 => h9) rfl (by decide +kernel) rfl rfl (Nat.le_of_ble_eq_true rfl) dX0_init_6 (fun H locs hP hD hS => ?_)
  have hP : va_P D vwCl [(h0, .inr (0, [.null, .int (0 : Int32), .null, .null, .null]))] H := hP
  have hD : va_D A [(h0, .inr (0, [.null, .int (0 : Int32), .null, .null, .null]))] := hD
  refine lv_aload_n hx hb dX0_init_9 rfl (lv_at hl 0 rfl) ?_
  refine va_new (ci := 2) (fs := [.null, .null, .null, .null, .null, .null, .null, .int 0, .int 0]) (C := RX2) (T := TX2) (N := 9) hx hb hts in_X2 tyX2 tyX2_ok hown (hts _ wd_193) (hts _ wd_194) (hts _ wd_91) hK hP hD hS hA rfl df_X2 (Nat.le_of_ble_eq_true rfl) (Nat.le_of_ble_eq_true rfl) dX0_init_10 (fun q1 H hP hD hS => ?_)
  have hP : va_P D vwCl [(h0, .inr (0, [.null, .int (0 : Int32), .null, .null, .null])), (q1, .inr (2, [.null, .null, .null, .null, .null, .null, .null, .int 0, .int 0]))] H := hP
  have hD : va_D A [(h0, .inr (0, [.null, .int (0 : Int32), .null, .null, .null])), (q1, .inr (2, [.null, .null, .null, .null, .null, .null, .null, .int 0, .int 0]))] := hD
  refine lv_dup hx hb dX0_init_13 rfl ?_
  have hPc := hP.sub (ws' := [(q1, .inr (2, [.null, .null, .null, .null, .null, .null, .null, .int 0, .int 0]))]) [1] rfl
  have hDc := hD.sub (ws' := [(q1, .inr (2, [.null, .null, .null, .null, .null, .null, .null, .int 0, .int 0]))]) [1] (by decide) rfl
  have hFc := va_free (wc := [(q1, .inr (2, [.null, .null, .null, .null, .null, .null, .null, .int 0, .int 0]))]) hD hS hA [1] rfl
  refine va_callv (va_runIN (As := []) (rest := [.ref q1, .ref h0]) ⟨hx, hb, hml, hown, hts⟩ (ci_X2 l D ar q1  H.size) ⟨va_cnB 0 hts (tb_GI (fun _ z => z) wd_197) rfl rfl rfl (hN (RX0, 15, yX2_init, RX9) (by decide +kernel)) (hts _ wd_91) (by decide +kernel) ⟨Nat.le_of_ble_eq_true rfl, Nat.le_of_ble_eq_true rfl⟩, rfl, hts _ wd_196⟩ ⟨fun a U g mk q => by obtain ⟨q0, q1, qP, qK, qD, qN, qA⟩ := q; exact ⟨q0, q1, qP, va_K.moved (u := U) (U := U.calling g mk a) (Vm.Alike.refl U.vm) qK, qD, nsOk.same (s := U) (U := U.calling g mk a) rfl qN, va_AO.moved (u := U) (U := U.calling g mk a) (Vm.Alike.refl U.vm) qA⟩, fun U hU hW => ⟨rfl, by rw [hU], by rw [hU]; exact hPc, va_K.moved hW.alike hK, hDc.weaken (fun _ _ _ _ => trivial), nsOk.warm hW hN, va_AO.moved hW.alike hAO⟩⟩ rfl rfl hl.1 rfl (lv_room (Nat.le_of_ble_eq_true rfl)) dX0_init_14 ⟨Nat.le_of_ble_eq_true rfl, Nat.le_of_ble_eq_true rfl⟩) hS (fun q _ h => hFc q h) hFc (fun qf t H1 locs ht hvm hw hB hz1 hk1 hS => ?_)
  obtain ⟨hP1, hD1⟩ := hB
  rw [ht] at hP1
  obtain ⟨q2, eq2⟩ : ∃ z, z = qf 0 := ⟨_, rfl⟩
  obtain ⟨q3, eq3⟩ : ∃ z, z = qf 1 := ⟨_, rfl⟩
  obtain ⟨q4, eq4⟩ : ∃ z, z = qf 2 := ⟨_, rfl⟩
  obtain ⟨q5, eq5⟩ : ∃ z, z = qf 3 := ⟨_, rfl⟩
  obtain ⟨q6, eq6⟩ : ∃ z, z = qf 4 := ⟨_, rfl⟩
  obtain ⟨q7, eq7⟩ : ∃ z, z = qf 5 := ⟨_, rfl⟩
  obtain ⟨q8, eq8⟩ : ∃ z, z = qf 6 := ⟨_, rfl⟩
  have hP1 : va_P D vwCl [(q1, .inr (2, [.ref q2, .ref q3, .ref q4, .ref q5, .ref q6, .ref q7, .ref q8, .int (0 : Int32), .int (0 : Int32)])), (q2, .inl (ar 0, 24, .inl (fun _ => 0))), (q3, .inl (ar 0, 24, .inl (fun _ => 0))), (q4, .inl (ar 0, 24, .inl (fun _ => 0))), (q5, .inl (ar 0, 24, .inl (fun _ => 0))), (q6, .inl (ar 0, 24, .inl (fun _ => 0))), (q7, .inl (ar 0, 24, .inl (fun _ => 0))), (q8, .inl (ar 0, 8, .inl (fun _ => 0)))] H1 := by rw [eq2, eq3, eq4, eq5, eq6, eq7, eq8]; exact hP1
  have hD1 : va_D (va_A [(q1, .inr (2, [.null, .null, .null, .null, .null, .null, .null, .int 0, .int 0]))] H.size) [(q1, .inr (2, [.ref q2, .ref q3, .ref q4, .ref q5, .ref q6, .ref q7, .ref q8, .int (0 : Int32), .int (0 : Int32)])), (q2, .inl (ar 0, 24, .inl (fun _ => 0))), (q3, .inl (ar 0, 24, .inl (fun _ => 0))), (q4, .inl (ar 0, 24, .inl (fun _ => 0))), (q5, .inl (ar 0, 24, .inl (fun _ => 0))), (q6, .inl (ar 0, 24, .inl (fun _ => 0))), (q7, .inl (ar 0, 24, .inl (fun _ => 0))), (q8, .inl (ar 0, 8, .inl (fun _ => 0)))] := by rw [eq2, eq3, eq4, eq5, eq6, eq7, eq8]; exact hD1
  clear hw ht hvm hz1
  obtain ⟨hP, hD⟩ := va_join (wr := [(h0, .inr (0, [.null, .int (0 : Int32), .null, .null, .null]))]) (w1 := [(q1, .inr (2, [.ref q2, .ref q3, .ref q4, .ref q5, .ref q6, .ref q7, .ref q8, .int (0 : Int32), .int (0 : Int32)])), (q2, .inl (ar 0, 24, .inl (fun _ => 0))), (q3, .inl (ar 0, 24, .inl (fun _ => 0))), (q4, .inl (ar 0, 24, .inl (fun _ => 0))), (q5, .inl (ar 0, 24, .inl (fun _ => 0))), (q6, .inl (ar 0, 24, .inl (fun _ => 0))), (q7, .inl (ar 0, 24, .inl (fun _ => 0))), (q8, .inl (ar 0, 8, .inl (fun _ => 0)))]) hP hD [1] [0] rfl rfl (by decide) (by decide) hk1 hFc hP1 hD1
  generalize H1 = H at hP hS ⊢
  have hP : va_P D vwCl [(h0, .inr (0, [.null, .int (0 : Int32), .null, .null, .null])), (q1, .inr (2, [.ref q2, .ref q3, .ref q4, .ref q5, .ref q6, .ref q7, .ref q8, .int (0 : Int32), .int (0 : Int32)])), (q2, .inl (ar 0, 24, .inl (fun _ => 0))), (q3, .inl (ar 0, 24, .inl (fun _ => 0))), (q4, .inl (ar 0, 24, .inl (fun _ => 0))), (q5, .inl (ar 0, 24, .inl (fun _ => 0))), (q6, .inl (ar 0, 24, .inl (fun _ => 0))), (q7, .inl (ar 0, 24, .inl (fun _ => 0))), (q8, .inl (ar 0, 8, .inl (fun _ => 0)))] H := hP
  have hD : va_D A [(h0, .inr (0, [.null, .int (0 : Int32), .null, .null, .null])), (q1, .inr (2, [.ref q2, .ref q3, .ref q4, .ref q5, .ref q6, .ref q7, .ref q8, .int (0 : Int32), .int (0 : Int32)])), (q2, .inl (ar 0, 24, .inl (fun _ => 0))), (q3, .inl (ar 0, 24, .inl (fun _ => 0))), (q4, .inl (ar 0, 24, .inl (fun _ => 0))), (q5, .inl (ar 0, 24, .inl (fun _ => 0))), (q6, .inl (ar 0, 24, .inl (fun _ => 0))), (q7, .inl (ar 0, 24, .inl (fun _ => 0))), (q8, .inl (ar 0, 8, .inl (fun _ => 0)))] := hD
  refine va_putF (D := D) (ci := 0) (v := .ref q1) (ty := (.object "LoanPoints$Flow")) (C := RX0) (T := TX0) (N := 5) hx hb hts in_X0 tyX0 tyX0_ok nmX0 hown hK hP hD hS 0 rfl rfl 2 (by decide) (hts _ wd_320) (fun _ h9 => h9) rfl hin rfl (by decide +kernel) rfl rfl (Nat.le_of_ble_eq_true rfl) dX0_init_17 (fun H locs hP hD hS => ?_)
  have hP : va_P D vwCl [(h0, .inr (0, [.null, .int (0 : Int32), .ref q1, .null, .null])), (q1, .inr (2, [.ref q2, .ref q3, .ref q4, .ref q5, .ref q6, .ref q7, .ref q8, .int (0 : Int32), .int (0 : Int32)])), (q2, .inl (ar 0, 24, .inl (fun _ => 0))), (q3, .inl (ar 0, 24, .inl (fun _ => 0))), (q4, .inl (ar 0, 24, .inl (fun _ => 0))), (q5, .inl (ar 0, 24, .inl (fun _ => 0))), (q6, .inl (ar 0, 24, .inl (fun _ => 0))), (q7, .inl (ar 0, 24, .inl (fun _ => 0))), (q8, .inl (ar 0, 8, .inl (fun _ => 0)))] H := hP
  have hD : va_D A [(h0, .inr (0, [.null, .int (0 : Int32), .ref q1, .null, .null])), (q1, .inr (2, [.ref q2, .ref q3, .ref q4, .ref q5, .ref q6, .ref q7, .ref q8, .int (0 : Int32), .int (0 : Int32)])), (q2, .inl (ar 0, 24, .inl (fun _ => 0))), (q3, .inl (ar 0, 24, .inl (fun _ => 0))), (q4, .inl (ar 0, 24, .inl (fun _ => 0))), (q5, .inl (ar 0, 24, .inl (fun _ => 0))), (q6, .inl (ar 0, 24, .inl (fun _ => 0))), (q7, .inl (ar 0, 24, .inl (fun _ => 0))), (q8, .inl (ar 0, 8, .inl (fun _ => 0)))] := hD
  refine lv_aload_n hx hb dX0_init_20 rfl (lv_at hl 0 rfl) ?_
  refine va_new (ci := 3) (fs := [.int 0, .int 0, .int 0, .int 0, .null, .null, .int 0, .null, .null, .null, .null, .null, .null, .null]) (C := RX3) (T := TX3) (N := 14) hx hb hts in_X3 tyX3 tyX3_ok hown (hts _ wd_241) (hts _ wd_242) (hts _ wd_92) hK hP hD hS hA rfl df_X3 (Nat.le_of_ble_eq_true rfl) (Nat.le_of_ble_eq_true rfl) dX0_init_21 (fun q9 H hP hD hS => ?_)
  have hP : va_P D vwCl [(h0, .inr (0, [.null, .int (0 : Int32), .ref q1, .null, .null])), (q1, .inr (2, [.ref q2, .ref q3, .ref q4, .ref q5, .ref q6, .ref q7, .ref q8, .int (0 : Int32), .int (0 : Int32)])), (q2, .inl (ar 0, 24, .inl (fun _ => 0))), (q3, .inl (ar 0, 24, .inl (fun _ => 0))), (q4, .inl (ar 0, 24, .inl (fun _ => 0))), (q5, .inl (ar 0, 24, .inl (fun _ => 0))), (q6, .inl (ar 0, 24, .inl (fun _ => 0))), (q7, .inl (ar 0, 24, .inl (fun _ => 0))), (q8, .inl (ar 0, 8, .inl (fun _ => 0))), (q9, .inr (3, [.int 0, .int 0, .int 0, .int 0, .null, .null, .int 0, .null, .null, .null, .null, .null, .null, .null]))] H := hP
  have hD : va_D A [(h0, .inr (0, [.null, .int (0 : Int32), .ref q1, .null, .null])), (q1, .inr (2, [.ref q2, .ref q3, .ref q4, .ref q5, .ref q6, .ref q7, .ref q8, .int (0 : Int32), .int (0 : Int32)])), (q2, .inl (ar 0, 24, .inl (fun _ => 0))), (q3, .inl (ar 0, 24, .inl (fun _ => 0))), (q4, .inl (ar 0, 24, .inl (fun _ => 0))), (q5, .inl (ar 0, 24, .inl (fun _ => 0))), (q6, .inl (ar 0, 24, .inl (fun _ => 0))), (q7, .inl (ar 0, 24, .inl (fun _ => 0))), (q8, .inl (ar 0, 8, .inl (fun _ => 0))), (q9, .inr (3, [.int 0, .int 0, .int 0, .int 0, .null, .null, .int 0, .null, .null, .null, .null, .null, .null, .null]))] := hD
  refine lv_dup hx hb dX0_init_24 rfl ?_
  have hPc := hP.sub (ws' := [(q9, .inr (3, [.int 0, .int 0, .int 0, .int 0, .null, .null, .int 0, .null, .null, .null, .null, .null, .null, .null]))]) [9] rfl
  have hDc := hD.sub (ws' := [(q9, .inr (3, [.int 0, .int 0, .int 0, .int 0, .null, .null, .int 0, .null, .null, .null, .null, .null, .null, .null]))]) [9] (by decide) rfl
  have hFc := va_free (wc := [(q9, .inr (3, [.int 0, .int 0, .int 0, .int 0, .null, .null, .int 0, .null, .null, .null, .null, .null, .null, .null]))]) hD hS hA [9] rfl
  refine va_callv (va_runIN (As := []) (rest := [.ref q9, .ref h0]) ⟨hx, hb, hml, hown, hts⟩ (ci_X3 l D ar q9  H.size) ⟨va_cnB 0 hts (tb_GI (fun _ z => z) wd_245) rfl rfl rfl (hN (RX0, 22, yX3_init, RX9) (by decide +kernel)) (hts _ wd_92) (by decide +kernel) ⟨Nat.le_of_ble_eq_true rfl, Nat.le_of_ble_eq_true rfl⟩, rfl, hts _ wd_244⟩ ⟨fun a U g mk q => by obtain ⟨q0, q1, qP, qK, qD, qN, qA⟩ := q; exact ⟨q0, q1, qP, va_K.moved (u := U) (U := U.calling g mk a) (Vm.Alike.refl U.vm) qK, qD, nsOk.same (s := U) (U := U.calling g mk a) rfl qN, va_AO.moved (u := U) (U := U.calling g mk a) (Vm.Alike.refl U.vm) qA⟩, fun U hU hW => ⟨rfl, by rw [hU], by rw [hU]; exact hPc, va_K.moved hW.alike hK, hDc.weaken (fun _ _ _ _ => trivial), nsOk.warm hW hN, va_AO.moved hW.alike hAO⟩⟩ rfl rfl hl.1 rfl (lv_room (Nat.le_of_ble_eq_true rfl)) dX0_init_25 ⟨Nat.le_of_ble_eq_true rfl, Nat.le_of_ble_eq_true rfl⟩) hS (fun q _ h => hFc q h) hFc (fun qf t H1 locs ht hvm hw hB hz1 hk1 hS => ?_)
  obtain ⟨hP1, hD1⟩ := hB
  rw [ht] at hP1
  obtain ⟨q10, eq10⟩ : ∃ z, z = qf 0 := ⟨_, rfl⟩
  obtain ⟨q11, eq11⟩ : ∃ z, z = qf 1 := ⟨_, rfl⟩
  obtain ⟨q12, eq12⟩ : ∃ z, z = qf 2 := ⟨_, rfl⟩
  obtain ⟨q13, eq13⟩ : ∃ z, z = qf 3 := ⟨_, rfl⟩
  obtain ⟨q14, eq14⟩ : ∃ z, z = qf 4 := ⟨_, rfl⟩
  obtain ⟨q15, eq15⟩ : ∃ z, z = qf 5 := ⟨_, rfl⟩
  obtain ⟨q16, eq16⟩ : ∃ z, z = qf 6 := ⟨_, rfl⟩
  obtain ⟨q17, eq17⟩ : ∃ z, z = qf 7 := ⟨_, rfl⟩
  obtain ⟨q18, eq18⟩ : ∃ z, z = qf 8 := ⟨_, rfl⟩
  have hP1 : va_P D vwCl [(q9, .inr (3, [.int (0 : Int32), .int (0 : Int32), .int (0 : Int32), .int (0 : Int32), .ref q10, .ref q11, .int (0 : Int32), .ref q12, .ref q13, .ref q14, .ref q15, .ref q16, .ref q17, .ref q18])), (q10, .inl (ar 0, 192, .inl (fun _ => 0))), (q11, .inl (ar 0, 8, .inl (fun _ => 0))), (q12, .inl (ar 0, 24, .inl (fun _ => 0))), (q13, .inl (ar 0, 24, .inl (fun _ => 0))), (q14, .inl (ar 0, 24, .inl (fun _ => 0))), (q15, .inl (ar 0, 24, .inl (fun _ => 0))), (q16, .inl (ar 0, 24, .inl (fun _ => 0))), (q17, .inl (ar 0, 8, .inl (fun _ => 0))), (q18, .inl (ar 0, 8, .inl (fun _ => 0)))] H1 := by rw [eq10, eq11, eq12, eq13, eq14, eq15, eq16, eq17, eq18]; exact hP1
  have hD1 : va_D (va_A [(q9, .inr (3, [.int 0, .int 0, .int 0, .int 0, .null, .null, .int 0, .null, .null, .null, .null, .null, .null, .null]))] H.size) [(q9, .inr (3, [.int (0 : Int32), .int (0 : Int32), .int (0 : Int32), .int (0 : Int32), .ref q10, .ref q11, .int (0 : Int32), .ref q12, .ref q13, .ref q14, .ref q15, .ref q16, .ref q17, .ref q18])), (q10, .inl (ar 0, 192, .inl (fun _ => 0))), (q11, .inl (ar 0, 8, .inl (fun _ => 0))), (q12, .inl (ar 0, 24, .inl (fun _ => 0))), (q13, .inl (ar 0, 24, .inl (fun _ => 0))), (q14, .inl (ar 0, 24, .inl (fun _ => 0))), (q15, .inl (ar 0, 24, .inl (fun _ => 0))), (q16, .inl (ar 0, 24, .inl (fun _ => 0))), (q17, .inl (ar 0, 8, .inl (fun _ => 0))), (q18, .inl (ar 0, 8, .inl (fun _ => 0)))] := by rw [eq10, eq11, eq12, eq13, eq14, eq15, eq16, eq17, eq18]; exact hD1
  clear hw ht hvm hz1
  obtain ⟨hP, hD⟩ := va_join (wr := [(h0, .inr (0, [.null, .int (0 : Int32), .ref q1, .null, .null])), (q1, .inr (2, [.ref q2, .ref q3, .ref q4, .ref q5, .ref q6, .ref q7, .ref q8, .int (0 : Int32), .int (0 : Int32)])), (q2, .inl (ar 0, 24, .inl (fun _ => 0))), (q3, .inl (ar 0, 24, .inl (fun _ => 0))), (q4, .inl (ar 0, 24, .inl (fun _ => 0))), (q5, .inl (ar 0, 24, .inl (fun _ => 0))), (q6, .inl (ar 0, 24, .inl (fun _ => 0))), (q7, .inl (ar 0, 24, .inl (fun _ => 0))), (q8, .inl (ar 0, 8, .inl (fun _ => 0)))]) (w1 := [(q9, .inr (3, [.int (0 : Int32), .int (0 : Int32), .int (0 : Int32), .int (0 : Int32), .ref q10, .ref q11, .int (0 : Int32), .ref q12, .ref q13, .ref q14, .ref q15, .ref q16, .ref q17, .ref q18])), (q10, .inl (ar 0, 192, .inl (fun _ => 0))), (q11, .inl (ar 0, 8, .inl (fun _ => 0))), (q12, .inl (ar 0, 24, .inl (fun _ => 0))), (q13, .inl (ar 0, 24, .inl (fun _ => 0))), (q14, .inl (ar 0, 24, .inl (fun _ => 0))), (q15, .inl (ar 0, 24, .inl (fun _ => 0))), (q16, .inl (ar 0, 24, .inl (fun _ => 0))), (q17, .inl (ar 0, 8, .inl (fun _ => 0))), (q18, .inl (ar 0, 8, .inl (fun _ => 0)))]) hP hD [9] [0, 1, 2, 3, 4, 5, 6, 7, 8] rfl rfl (by decide) (by decide) hk1 hFc hP1 hD1
  generalize H1 = H at hP hS ⊢
  have hP : va_P D vwCl [(h0, .inr (0, [.null, .int (0 : Int32), .ref q1, .null, .null])), (q1, .inr (2, [.ref q2, .ref q3, .ref q4, .ref q5, .ref q6, .ref q7, .ref q8, .int (0 : Int32), .int (0 : Int32)])), (q2, .inl (ar 0, 24, .inl (fun _ => 0))), (q3, .inl (ar 0, 24, .inl (fun _ => 0))), (q4, .inl (ar 0, 24, .inl (fun _ => 0))), (q5, .inl (ar 0, 24, .inl (fun _ => 0))), (q6, .inl (ar 0, 24, .inl (fun _ => 0))), (q7, .inl (ar 0, 24, .inl (fun _ => 0))), (q8, .inl (ar 0, 8, .inl (fun _ => 0))), (q9, .inr (3, [.int (0 : Int32), .int (0 : Int32), .int (0 : Int32), .int (0 : Int32), .ref q10, .ref q11, .int (0 : Int32), .ref q12, .ref q13, .ref q14, .ref q15, .ref q16, .ref q17, .ref q18])), (q10, .inl (ar 0, 192, .inl (fun _ => 0))), (q11, .inl (ar 0, 8, .inl (fun _ => 0))), (q12, .inl (ar 0, 24, .inl (fun _ => 0))), (q13, .inl (ar 0, 24, .inl (fun _ => 0))), (q14, .inl (ar 0, 24, .inl (fun _ => 0))), (q15, .inl (ar 0, 24, .inl (fun _ => 0))), (q16, .inl (ar 0, 24, .inl (fun _ => 0))), (q17, .inl (ar 0, 8, .inl (fun _ => 0))), (q18, .inl (ar 0, 8, .inl (fun _ => 0)))] H := hP
  have hD : va_D A [(h0, .inr (0, [.null, .int (0 : Int32), .ref q1, .null, .null])), (q1, .inr (2, [.ref q2, .ref q3, .ref q4, .ref q5, .ref q6, .ref q7, .ref q8, .int (0 : Int32), .int (0 : Int32)])), (q2, .inl (ar 0, 24, .inl (fun _ => 0))), (q3, .inl (ar 0, 24, .inl (fun _ => 0))), (q4, .inl (ar 0, 24, .inl (fun _ => 0))), (q5, .inl (ar 0, 24, .inl (fun _ => 0))), (q6, .inl (ar 0, 24, .inl (fun _ => 0))), (q7, .inl (ar 0, 24, .inl (fun _ => 0))), (q8, .inl (ar 0, 8, .inl (fun _ => 0))), (q9, .inr (3, [.int (0 : Int32), .int (0 : Int32), .int (0 : Int32), .int (0 : Int32), .ref q10, .ref q11, .int (0 : Int32), .ref q12, .ref q13, .ref q14, .ref q15, .ref q16, .ref q17, .ref q18])), (q10, .inl (ar 0, 192, .inl (fun _ => 0))), (q11, .inl (ar 0, 8, .inl (fun _ => 0))), (q12, .inl (ar 0, 24, .inl (fun _ => 0))), (q13, .inl (ar 0, 24, .inl (fun _ => 0))), (q14, .inl (ar 0, 24, .inl (fun _ => 0))), (q15, .inl (ar 0, 24, .inl (fun _ => 0))), (q16, .inl (ar 0, 24, .inl (fun _ => 0))), (q17, .inl (ar 0, 8, .inl (fun _ => 0))), (q18, .inl (ar 0, 8, .inl (fun _ => 0)))] := hD
  refine va_putF (D := D) (ci := 0) (v := .ref q9) (ty := (.object "LoanPoints$Lending")) (C := RX0) (T := TX0) (N := 5) hx hb hts in_X0 tyX0 tyX0_ok nmX0 hown hK hP hD hS 0 rfl rfl 3 (by decide) (hts _ wd_324) (fun _ h9 => h9) rfl hin rfl (by decide +kernel) rfl rfl (Nat.le_of_ble_eq_true rfl) dX0_init_28 (fun H locs hP hD hS => ?_)
  have hP : va_P D vwCl [(h0, .inr (0, [.null, .int (0 : Int32), .ref q1, .ref q9, .null])), (q1, .inr (2, [.ref q2, .ref q3, .ref q4, .ref q5, .ref q6, .ref q7, .ref q8, .int (0 : Int32), .int (0 : Int32)])), (q2, .inl (ar 0, 24, .inl (fun _ => 0))), (q3, .inl (ar 0, 24, .inl (fun _ => 0))), (q4, .inl (ar 0, 24, .inl (fun _ => 0))), (q5, .inl (ar 0, 24, .inl (fun _ => 0))), (q6, .inl (ar 0, 24, .inl (fun _ => 0))), (q7, .inl (ar 0, 24, .inl (fun _ => 0))), (q8, .inl (ar 0, 8, .inl (fun _ => 0))), (q9, .inr (3, [.int (0 : Int32), .int (0 : Int32), .int (0 : Int32), .int (0 : Int32), .ref q10, .ref q11, .int (0 : Int32), .ref q12, .ref q13, .ref q14, .ref q15, .ref q16, .ref q17, .ref q18])), (q10, .inl (ar 0, 192, .inl (fun _ => 0))), (q11, .inl (ar 0, 8, .inl (fun _ => 0))), (q12, .inl (ar 0, 24, .inl (fun _ => 0))), (q13, .inl (ar 0, 24, .inl (fun _ => 0))), (q14, .inl (ar 0, 24, .inl (fun _ => 0))), (q15, .inl (ar 0, 24, .inl (fun _ => 0))), (q16, .inl (ar 0, 24, .inl (fun _ => 0))), (q17, .inl (ar 0, 8, .inl (fun _ => 0))), (q18, .inl (ar 0, 8, .inl (fun _ => 0)))] H := hP
  have hD : va_D A [(h0, .inr (0, [.null, .int (0 : Int32), .ref q1, .ref q9, .null])), (q1, .inr (2, [.ref q2, .ref q3, .ref q4, .ref q5, .ref q6, .ref q7, .ref q8, .int (0 : Int32), .int (0 : Int32)])), (q2, .inl (ar 0, 24, .inl (fun _ => 0))), (q3, .inl (ar 0, 24, .inl (fun _ => 0))), (q4, .inl (ar 0, 24, .inl (fun _ => 0))), (q5, .inl (ar 0, 24, .inl (fun _ => 0))), (q6, .inl (ar 0, 24, .inl (fun _ => 0))), (q7, .inl (ar 0, 24, .inl (fun _ => 0))), (q8, .inl (ar 0, 8, .inl (fun _ => 0))), (q9, .inr (3, [.int (0 : Int32), .int (0 : Int32), .int (0 : Int32), .int (0 : Int32), .ref q10, .ref q11, .int (0 : Int32), .ref q12, .ref q13, .ref q14, .ref q15, .ref q16, .ref q17, .ref q18])), (q10, .inl (ar 0, 192, .inl (fun _ => 0))), (q11, .inl (ar 0, 8, .inl (fun _ => 0))), (q12, .inl (ar 0, 24, .inl (fun _ => 0))), (q13, .inl (ar 0, 24, .inl (fun _ => 0))), (q14, .inl (ar 0, 24, .inl (fun _ => 0))), (q15, .inl (ar 0, 24, .inl (fun _ => 0))), (q16, .inl (ar 0, 24, .inl (fun _ => 0))), (q17, .inl (ar 0, 8, .inl (fun _ => 0))), (q18, .inl (ar 0, 8, .inl (fun _ => 0)))] := hD
  refine lv_aload_n hx hb dX0_init_31 rfl (lv_at hl 0 rfl) ?_
  refine va_new (ci := 1) (fs := [.null, .int 0, .int 0]) (C := RX1) (T := TX1) (N := 3) hx hb hts in_X1 tyX1 tyX1_ok hown (hts _ wd_300) (hts _ wd_301) (hts _ wd_93) hK hP hD hS hA rfl df_X1 (Nat.le_of_ble_eq_true rfl) (Nat.le_of_ble_eq_true rfl) dX0_init_32 (fun q19 H hP hD hS => ?_)
  have hP : va_P D vwCl [(h0, .inr (0, [.null, .int (0 : Int32), .ref q1, .ref q9, .null])), (q1, .inr (2, [.ref q2, .ref q3, .ref q4, .ref q5, .ref q6, .ref q7, .ref q8, .int (0 : Int32), .int (0 : Int32)])), (q2, .inl (ar 0, 24, .inl (fun _ => 0))), (q3, .inl (ar 0, 24, .inl (fun _ => 0))), (q4, .inl (ar 0, 24, .inl (fun _ => 0))), (q5, .inl (ar 0, 24, .inl (fun _ => 0))), (q6, .inl (ar 0, 24, .inl (fun _ => 0))), (q7, .inl (ar 0, 24, .inl (fun _ => 0))), (q8, .inl (ar 0, 8, .inl (fun _ => 0))), (q9, .inr (3, [.int (0 : Int32), .int (0 : Int32), .int (0 : Int32), .int (0 : Int32), .ref q10, .ref q11, .int (0 : Int32), .ref q12, .ref q13, .ref q14, .ref q15, .ref q16, .ref q17, .ref q18])), (q10, .inl (ar 0, 192, .inl (fun _ => 0))), (q11, .inl (ar 0, 8, .inl (fun _ => 0))), (q12, .inl (ar 0, 24, .inl (fun _ => 0))), (q13, .inl (ar 0, 24, .inl (fun _ => 0))), (q14, .inl (ar 0, 24, .inl (fun _ => 0))), (q15, .inl (ar 0, 24, .inl (fun _ => 0))), (q16, .inl (ar 0, 24, .inl (fun _ => 0))), (q17, .inl (ar 0, 8, .inl (fun _ => 0))), (q18, .inl (ar 0, 8, .inl (fun _ => 0))), (q19, .inr (1, [.null, .int 0, .int 0]))] H := hP
  have hD : va_D A [(h0, .inr (0, [.null, .int (0 : Int32), .ref q1, .ref q9, .null])), (q1, .inr (2, [.ref q2, .ref q3, .ref q4, .ref q5, .ref q6, .ref q7, .ref q8, .int (0 : Int32), .int (0 : Int32)])), (q2, .inl (ar 0, 24, .inl (fun _ => 0))), (q3, .inl (ar 0, 24, .inl (fun _ => 0))), (q4, .inl (ar 0, 24, .inl (fun _ => 0))), (q5, .inl (ar 0, 24, .inl (fun _ => 0))), (q6, .inl (ar 0, 24, .inl (fun _ => 0))), (q7, .inl (ar 0, 24, .inl (fun _ => 0))), (q8, .inl (ar 0, 8, .inl (fun _ => 0))), (q9, .inr (3, [.int (0 : Int32), .int (0 : Int32), .int (0 : Int32), .int (0 : Int32), .ref q10, .ref q11, .int (0 : Int32), .ref q12, .ref q13, .ref q14, .ref q15, .ref q16, .ref q17, .ref q18])), (q10, .inl (ar 0, 192, .inl (fun _ => 0))), (q11, .inl (ar 0, 8, .inl (fun _ => 0))), (q12, .inl (ar 0, 24, .inl (fun _ => 0))), (q13, .inl (ar 0, 24, .inl (fun _ => 0))), (q14, .inl (ar 0, 24, .inl (fun _ => 0))), (q15, .inl (ar 0, 24, .inl (fun _ => 0))), (q16, .inl (ar 0, 24, .inl (fun _ => 0))), (q17, .inl (ar 0, 8, .inl (fun _ => 0))), (q18, .inl (ar 0, 8, .inl (fun _ => 0))), (q19, .inr (1, [.null, .int 0, .int 0]))] := hD
  refine lv_dup hx hb dX0_init_35 rfl ?_
  have hPc := hP.sub (ws' := [(q19, .inr (1, [.null, .int 0, .int 0]))]) [19] rfl
  have hDc := hD.sub (ws' := [(q19, .inr (1, [.null, .int 0, .int 0]))]) [19] (by decide) rfl
  have hFc := va_free (wc := [(q19, .inr (1, [.null, .int 0, .int 0]))]) hD hS hA [19] rfl
  refine va_callv (va_runIN (As := []) (rest := [.ref q19, .ref h0]) ⟨hx, hb, hml, hown, hts⟩ (ci_X1 l D ar q19  H.size) ⟨va_cnB 0 hts (tb_GI (fun _ z => z) wd_304) rfl rfl rfl (hN (RX0, 29, yX1_init, RX9) (by decide +kernel)) (hts _ wd_93) (by decide +kernel) ⟨Nat.le_of_ble_eq_true rfl, Nat.le_of_ble_eq_true rfl⟩, rfl, hts _ wd_303⟩ ⟨fun a U g mk q => by obtain ⟨q0, q1, qP, qK, qD, qN, qA⟩ := q; exact ⟨q0, q1, qP, va_K.moved (u := U) (U := U.calling g mk a) (Vm.Alike.refl U.vm) qK, qD, nsOk.same (s := U) (U := U.calling g mk a) rfl qN, va_AO.moved (u := U) (U := U.calling g mk a) (Vm.Alike.refl U.vm) qA⟩, fun U hU hW => ⟨rfl, by rw [hU], by rw [hU]; exact hPc, va_K.moved hW.alike hK, hDc.weaken (fun _ _ _ _ => trivial), nsOk.warm hW hN, va_AO.moved hW.alike hAO⟩⟩ rfl rfl hl.1 rfl (lv_room (Nat.le_of_ble_eq_true rfl)) dX0_init_36 ⟨Nat.le_of_ble_eq_true rfl, Nat.le_of_ble_eq_true rfl⟩) hS (fun q _ h => hFc q h) hFc (fun qf t H1 locs ht hvm hw hB hz1 hk1 hS => ?_)
  obtain ⟨hP1, hD1⟩ := hB
  rw [ht] at hP1
  obtain ⟨q20, eq20⟩ : ∃ z, z = qf 0 := ⟨_, rfl⟩
  have hP1 : va_P D vwCl [(q19, .inr (1, [.ref q20, .int (0 : Int32), .int (0 : Int32)])), (q20, .inl (ar 0, 96, .inl (fun _ => 0)))] H1 := by rw [eq20]; exact hP1
  have hD1 : va_D (va_A [(q19, .inr (1, [.null, .int 0, .int 0]))] H.size) [(q19, .inr (1, [.ref q20, .int (0 : Int32), .int (0 : Int32)])), (q20, .inl (ar 0, 96, .inl (fun _ => 0)))] := by rw [eq20]; exact hD1
  clear hw ht hvm hz1
  obtain ⟨hP, hD⟩ := va_join (wr := [(h0, .inr (0, [.null, .int (0 : Int32), .ref q1, .ref q9, .null])), (q1, .inr (2, [.ref q2, .ref q3, .ref q4, .ref q5, .ref q6, .ref q7, .ref q8, .int (0 : Int32), .int (0 : Int32)])), (q2, .inl (ar 0, 24, .inl (fun _ => 0))), (q3, .inl (ar 0, 24, .inl (fun _ => 0))), (q4, .inl (ar 0, 24, .inl (fun _ => 0))), (q5, .inl (ar 0, 24, .inl (fun _ => 0))), (q6, .inl (ar 0, 24, .inl (fun _ => 0))), (q7, .inl (ar 0, 24, .inl (fun _ => 0))), (q8, .inl (ar 0, 8, .inl (fun _ => 0))), (q9, .inr (3, [.int (0 : Int32), .int (0 : Int32), .int (0 : Int32), .int (0 : Int32), .ref q10, .ref q11, .int (0 : Int32), .ref q12, .ref q13, .ref q14, .ref q15, .ref q16, .ref q17, .ref q18])), (q10, .inl (ar 0, 192, .inl (fun _ => 0))), (q11, .inl (ar 0, 8, .inl (fun _ => 0))), (q12, .inl (ar 0, 24, .inl (fun _ => 0))), (q13, .inl (ar 0, 24, .inl (fun _ => 0))), (q14, .inl (ar 0, 24, .inl (fun _ => 0))), (q15, .inl (ar 0, 24, .inl (fun _ => 0))), (q16, .inl (ar 0, 24, .inl (fun _ => 0))), (q17, .inl (ar 0, 8, .inl (fun _ => 0))), (q18, .inl (ar 0, 8, .inl (fun _ => 0)))]) (w1 := [(q19, .inr (1, [.ref q20, .int (0 : Int32), .int (0 : Int32)])), (q20, .inl (ar 0, 96, .inl (fun _ => 0)))]) hP hD [19] [0, 1, 2, 3, 4, 5, 6, 7, 8, 9, 10, 11, 12, 13, 14, 15, 16, 17, 18] rfl rfl (by decide) (by decide) hk1 hFc hP1 hD1
  generalize H1 = H at hP hS ⊢
  have hP : va_P D vwCl [(h0, .inr (0, [.null, .int (0 : Int32), .ref q1, .ref q9, .null])), (q1, .inr (2, [.ref q2, .ref q3, .ref q4, .ref q5, .ref q6, .ref q7, .ref q8, .int (0 : Int32), .int (0 : Int32)])), (q2, .inl (ar 0, 24, .inl (fun _ => 0))), (q3, .inl (ar 0, 24, .inl (fun _ => 0))), (q4, .inl (ar 0, 24, .inl (fun _ => 0))), (q5, .inl (ar 0, 24, .inl (fun _ => 0))), (q6, .inl (ar 0, 24, .inl (fun _ => 0))), (q7, .inl (ar 0, 24, .inl (fun _ => 0))), (q8, .inl (ar 0, 8, .inl (fun _ => 0))), (q9, .inr (3, [.int (0 : Int32), .int (0 : Int32), .int (0 : Int32), .int (0 : Int32), .ref q10, .ref q11, .int (0 : Int32), .ref q12, .ref q13, .ref q14, .ref q15, .ref q16, .ref q17, .ref q18])), (q10, .inl (ar 0, 192, .inl (fun _ => 0))), (q11, .inl (ar 0, 8, .inl (fun _ => 0))), (q12, .inl (ar 0, 24, .inl (fun _ => 0))), (q13, .inl (ar 0, 24, .inl (fun _ => 0))), (q14, .inl (ar 0, 24, .inl (fun _ => 0))), (q15, .inl (ar 0, 24, .inl (fun _ => 0))), (q16, .inl (ar 0, 24, .inl (fun _ => 0))), (q17, .inl (ar 0, 8, .inl (fun _ => 0))), (q18, .inl (ar 0, 8, .inl (fun _ => 0))), (q19, .inr (1, [.ref q20, .int (0 : Int32), .int (0 : Int32)])), (q20, .inl (ar 0, 96, .inl (fun _ => 0)))] H := hP
  have hD : va_D A [(h0, .inr (0, [.null, .int (0 : Int32), .ref q1, .ref q9, .null])), (q1, .inr (2, [.ref q2, .ref q3, .ref q4, .ref q5, .ref q6, .ref q7, .ref q8, .int (0 : Int32), .int (0 : Int32)])), (q2, .inl (ar 0, 24, .inl (fun _ => 0))), (q3, .inl (ar 0, 24, .inl (fun _ => 0))), (q4, .inl (ar 0, 24, .inl (fun _ => 0))), (q5, .inl (ar 0, 24, .inl (fun _ => 0))), (q6, .inl (ar 0, 24, .inl (fun _ => 0))), (q7, .inl (ar 0, 24, .inl (fun _ => 0))), (q8, .inl (ar 0, 8, .inl (fun _ => 0))), (q9, .inr (3, [.int (0 : Int32), .int (0 : Int32), .int (0 : Int32), .int (0 : Int32), .ref q10, .ref q11, .int (0 : Int32), .ref q12, .ref q13, .ref q14, .ref q15, .ref q16, .ref q17, .ref q18])), (q10, .inl (ar 0, 192, .inl (fun _ => 0))), (q11, .inl (ar 0, 8, .inl (fun _ => 0))), (q12, .inl (ar 0, 24, .inl (fun _ => 0))), (q13, .inl (ar 0, 24, .inl (fun _ => 0))), (q14, .inl (ar 0, 24, .inl (fun _ => 0))), (q15, .inl (ar 0, 24, .inl (fun _ => 0))), (q16, .inl (ar 0, 24, .inl (fun _ => 0))), (q17, .inl (ar 0, 8, .inl (fun _ => 0))), (q18, .inl (ar 0, 8, .inl (fun _ => 0))), (q19, .inr (1, [.ref q20, .int (0 : Int32), .int (0 : Int32)])), (q20, .inl (ar 0, 96, .inl (fun _ => 0)))] := hD
  refine va_putF (D := D) (ci := 0) (v := .ref q19) (ty := (.object "LoanPoints$Faults")) (C := RX0) (T := TX0) (N := 5) hx hb hts in_X0 tyX0 tyX0_ok nmX0 hown hK hP hD hS 0 rfl rfl 4 (by decide) (hts _ wd_327) (fun _ h9 => h9) rfl hin rfl (by decide +kernel) rfl rfl (Nat.le_of_ble_eq_true rfl) dX0_init_39 (fun H locs hP hD hS => ?_)
  have hP : va_P D vwCl [(h0, .inr (0, [.null, .int (0 : Int32), .ref q1, .ref q9, .ref q19])), (q1, .inr (2, [.ref q2, .ref q3, .ref q4, .ref q5, .ref q6, .ref q7, .ref q8, .int (0 : Int32), .int (0 : Int32)])), (q2, .inl (ar 0, 24, .inl (fun _ => 0))), (q3, .inl (ar 0, 24, .inl (fun _ => 0))), (q4, .inl (ar 0, 24, .inl (fun _ => 0))), (q5, .inl (ar 0, 24, .inl (fun _ => 0))), (q6, .inl (ar 0, 24, .inl (fun _ => 0))), (q7, .inl (ar 0, 24, .inl (fun _ => 0))), (q8, .inl (ar 0, 8, .inl (fun _ => 0))), (q9, .inr (3, [.int (0 : Int32), .int (0 : Int32), .int (0 : Int32), .int (0 : Int32), .ref q10, .ref q11, .int (0 : Int32), .ref q12, .ref q13, .ref q14, .ref q15, .ref q16, .ref q17, .ref q18])), (q10, .inl (ar 0, 192, .inl (fun _ => 0))), (q11, .inl (ar 0, 8, .inl (fun _ => 0))), (q12, .inl (ar 0, 24, .inl (fun _ => 0))), (q13, .inl (ar 0, 24, .inl (fun _ => 0))), (q14, .inl (ar 0, 24, .inl (fun _ => 0))), (q15, .inl (ar 0, 24, .inl (fun _ => 0))), (q16, .inl (ar 0, 24, .inl (fun _ => 0))), (q17, .inl (ar 0, 8, .inl (fun _ => 0))), (q18, .inl (ar 0, 8, .inl (fun _ => 0))), (q19, .inr (1, [.ref q20, .int (0 : Int32), .int (0 : Int32)])), (q20, .inl (ar 0, 96, .inl (fun _ => 0)))] H := hP
  have hD : va_D A [(h0, .inr (0, [.null, .int (0 : Int32), .ref q1, .ref q9, .ref q19])), (q1, .inr (2, [.ref q2, .ref q3, .ref q4, .ref q5, .ref q6, .ref q7, .ref q8, .int (0 : Int32), .int (0 : Int32)])), (q2, .inl (ar 0, 24, .inl (fun _ => 0))), (q3, .inl (ar 0, 24, .inl (fun _ => 0))), (q4, .inl (ar 0, 24, .inl (fun _ => 0))), (q5, .inl (ar 0, 24, .inl (fun _ => 0))), (q6, .inl (ar 0, 24, .inl (fun _ => 0))), (q7, .inl (ar 0, 24, .inl (fun _ => 0))), (q8, .inl (ar 0, 8, .inl (fun _ => 0))), (q9, .inr (3, [.int (0 : Int32), .int (0 : Int32), .int (0 : Int32), .int (0 : Int32), .ref q10, .ref q11, .int (0 : Int32), .ref q12, .ref q13, .ref q14, .ref q15, .ref q16, .ref q17, .ref q18])), (q10, .inl (ar 0, 192, .inl (fun _ => 0))), (q11, .inl (ar 0, 8, .inl (fun _ => 0))), (q12, .inl (ar 0, 24, .inl (fun _ => 0))), (q13, .inl (ar 0, 24, .inl (fun _ => 0))), (q14, .inl (ar 0, 24, .inl (fun _ => 0))), (q15, .inl (ar 0, 24, .inl (fun _ => 0))), (q16, .inl (ar 0, 24, .inl (fun _ => 0))), (q17, .inl (ar 0, 8, .inl (fun _ => 0))), (q18, .inl (ar 0, 8, .inl (fun _ => 0))), (q19, .inr (1, [.ref q20, .int (0 : Int32), .int (0 : Int32)])), (q20, .inl (ar 0, 96, .inl (fun _ => 0)))] := hD
  refine lv_aload_n hx hb dX0_init_42 rfl (lv_at hl 0 rfl) ?_
  refine lv_aload_n hx hb dX0_init_43 rfl (lv_at hl 1 rfl) ?_
  refine va_putF (D := D) (ci := 0) (v := .ref h1) (ty := (.object "LoanPoints$Listing")) (C := RX0) (T := TX0) (N := 5) hx hb hts in_X0 tyX0 tyX0_ok nmX0 hown hK hP hD hS 0 rfl rfl 0 (by decide) (hts _ wd_318) (fun _ h9 => h9) rfl hin rfl (by decide +kernel) rfl rfl (Nat.le_of_ble_eq_true rfl) dX0_init_44 (fun H locs hP hD hS => ?_)
  have hP : va_P D vwCl [(h0, .inr (0, [.ref h1, .int (0 : Int32), .ref q1, .ref q9, .ref q19])), (q1, .inr (2, [.ref q2, .ref q3, .ref q4, .ref q5, .ref q6, .ref q7, .ref q8, .int (0 : Int32), .int (0 : Int32)])), (q2, .inl (ar 0, 24, .inl (fun _ => 0))), (q3, .inl (ar 0, 24, .inl (fun _ => 0))), (q4, .inl (ar 0, 24, .inl (fun _ => 0))), (q5, .inl (ar 0, 24, .inl (fun _ => 0))), (q6, .inl (ar 0, 24, .inl (fun _ => 0))), (q7, .inl (ar 0, 24, .inl (fun _ => 0))), (q8, .inl (ar 0, 8, .inl (fun _ => 0))), (q9, .inr (3, [.int (0 : Int32), .int (0 : Int32), .int (0 : Int32), .int (0 : Int32), .ref q10, .ref q11, .int (0 : Int32), .ref q12, .ref q13, .ref q14, .ref q15, .ref q16, .ref q17, .ref q18])), (q10, .inl (ar 0, 192, .inl (fun _ => 0))), (q11, .inl (ar 0, 8, .inl (fun _ => 0))), (q12, .inl (ar 0, 24, .inl (fun _ => 0))), (q13, .inl (ar 0, 24, .inl (fun _ => 0))), (q14, .inl (ar 0, 24, .inl (fun _ => 0))), (q15, .inl (ar 0, 24, .inl (fun _ => 0))), (q16, .inl (ar 0, 24, .inl (fun _ => 0))), (q17, .inl (ar 0, 8, .inl (fun _ => 0))), (q18, .inl (ar 0, 8, .inl (fun _ => 0))), (q19, .inr (1, [.ref q20, .int (0 : Int32), .int (0 : Int32)])), (q20, .inl (ar 0, 96, .inl (fun _ => 0)))] H := hP
  have hD : va_D A [(h0, .inr (0, [.ref h1, .int (0 : Int32), .ref q1, .ref q9, .ref q19])), (q1, .inr (2, [.ref q2, .ref q3, .ref q4, .ref q5, .ref q6, .ref q7, .ref q8, .int (0 : Int32), .int (0 : Int32)])), (q2, .inl (ar 0, 24, .inl (fun _ => 0))), (q3, .inl (ar 0, 24, .inl (fun _ => 0))), (q4, .inl (ar 0, 24, .inl (fun _ => 0))), (q5, .inl (ar 0, 24, .inl (fun _ => 0))), (q6, .inl (ar 0, 24, .inl (fun _ => 0))), (q7, .inl (ar 0, 24, .inl (fun _ => 0))), (q8, .inl (ar 0, 8, .inl (fun _ => 0))), (q9, .inr (3, [.int (0 : Int32), .int (0 : Int32), .int (0 : Int32), .int (0 : Int32), .ref q10, .ref q11, .int (0 : Int32), .ref q12, .ref q13, .ref q14, .ref q15, .ref q16, .ref q17, .ref q18])), (q10, .inl (ar 0, 192, .inl (fun _ => 0))), (q11, .inl (ar 0, 8, .inl (fun _ => 0))), (q12, .inl (ar 0, 24, .inl (fun _ => 0))), (q13, .inl (ar 0, 24, .inl (fun _ => 0))), (q14, .inl (ar 0, 24, .inl (fun _ => 0))), (q15, .inl (ar 0, 24, .inl (fun _ => 0))), (q16, .inl (ar 0, 24, .inl (fun _ => 0))), (q17, .inl (ar 0, 8, .inl (fun _ => 0))), (q18, .inl (ar 0, 8, .inl (fun _ => 0))), (q19, .inr (1, [.ref q20, .int (0 : Int32), .int (0 : Int32)])), (q20, .inl (ar 0, 96, .inl (fun _ => 0)))] := hD
  have hP9 := hP.sub (ws' := [(h0, .inr (0, [.ref h1, .int (0 : Int32), .ref q1, .ref q9, .ref q19])), (q1, .inr (2, [.ref q2, .ref q3, .ref q4, .ref q5, .ref q6, .ref q7, .ref q8, .int (0 : Int32), .int (0 : Int32)])), (q2, .inl (ar 0, 24, .inl (fun _ => 0))), (q3, .inl (ar 0, 24, .inl (fun _ => 0))), (q4, .inl (ar 0, 24, .inl (fun _ => 0))), (q5, .inl (ar 0, 24, .inl (fun _ => 0))), (q6, .inl (ar 0, 24, .inl (fun _ => 0))), (q7, .inl (ar 0, 24, .inl (fun _ => 0))), (q8, .inl (ar 0, 8, .inl (fun _ => 0))), (q9, .inr (3, [.int (0 : Int32), .int (0 : Int32), .int (0 : Int32), .int (0 : Int32), .ref q10, .ref q11, .int (0 : Int32), .ref q12, .ref q13, .ref q14, .ref q15, .ref q16, .ref q17, .ref q18])), (q10, .inl (ar 0, 192, .inl (fun _ => 0))), (q11, .inl (ar 0, 8, .inl (fun _ => 0))), (q12, .inl (ar 0, 24, .inl (fun _ => 0))), (q13, .inl (ar 0, 24, .inl (fun _ => 0))), (q14, .inl (ar 0, 24, .inl (fun _ => 0))), (q15, .inl (ar 0, 24, .inl (fun _ => 0))), (q16, .inl (ar 0, 24, .inl (fun _ => 0))), (q17, .inl (ar 0, 8, .inl (fun _ => 0))), (q18, .inl (ar 0, 8, .inl (fun _ => 0))), (q19, .inr (1, [.ref q20, .int (0 : Int32), .int (0 : Int32)])), (q20, .inl (ar 0, 96, .inl (fun _ => 0)))]) [0, 1, 2, 3, 4, 5, 6, 7, 8, 9, 10, 11, 12, 13, 14, 15, 16, 17, 18, 19, 20] rfl
  have hD9 := hD.sub (ws' := [(h0, .inr (0, [.ref h1, .int (0 : Int32), .ref q1, .ref q9, .ref q19])), (q1, .inr (2, [.ref q2, .ref q3, .ref q4, .ref q5, .ref q6, .ref q7, .ref q8, .int (0 : Int32), .int (0 : Int32)])), (q2, .inl (ar 0, 24, .inl (fun _ => 0))), (q3, .inl (ar 0, 24, .inl (fun _ => 0))), (q4, .inl (ar 0, 24, .inl (fun _ => 0))), (q5, .inl (ar 0, 24, .inl (fun _ => 0))), (q6, .inl (ar 0, 24, .inl (fun _ => 0))), (q7, .inl (ar 0, 24, .inl (fun _ => 0))), (q8, .inl (ar 0, 8, .inl (fun _ => 0))), (q9, .inr (3, [.int (0 : Int32), .int (0 : Int32), .int (0 : Int32), .int (0 : Int32), .ref q10, .ref q11, .int (0 : Int32), .ref q12, .ref q13, .ref q14, .ref q15, .ref q16, .ref q17, .ref q18])), (q10, .inl (ar 0, 192, .inl (fun _ => 0))), (q11, .inl (ar 0, 8, .inl (fun _ => 0))), (q12, .inl (ar 0, 24, .inl (fun _ => 0))), (q13, .inl (ar 0, 24, .inl (fun _ => 0))), (q14, .inl (ar 0, 24, .inl (fun _ => 0))), (q15, .inl (ar 0, 24, .inl (fun _ => 0))), (q16, .inl (ar 0, 24, .inl (fun _ => 0))), (q17, .inl (ar 0, 8, .inl (fun _ => 0))), (q18, .inl (ar 0, 8, .inl (fun _ => 0))), (q19, .inr (1, [.ref q20, .int (0 : Int32), .int (0 : Int32)])), (q20, .inl (ar 0, 96, .inl (fun _ => 0)))]) [0, 1, 2, 3, 4, 5, 6, 7, 8, 9, 10, 11, 12, 13, 14, 15, 16, 17, 18, 19, 20] (by decide) rfl
  refine W.widen (k := 20) (n := 610) (Nat.le_of_ble_eq_true rfl) (Nat.le_of_ble_eq_true rfl) ?_
  exact W.vret hx hb hr (fun t ht hW => ⟨⟨(fun k => ([q1, q2, q3, q4, q5, q6, q7, q8, q9, q10, q11, q12, q13, q14, q15, q16, q17, q18, q19, q20] : List Nat).getD k 0), rfl, trivial, by rw [ht]; exact hP9, hD9⟩, hS.F ht⟩) hS.2.2 dX0_init_47
