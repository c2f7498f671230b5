/-! ===== the words of the law ===== -/
def wsL_law_r1 : List Cond := [Cond.classLink RL 7 RX3, Cond.instantiable RX3 8, Cond.initialized RX3, Cond.classLink RL 10 RX4, Cond.instantiable RX4 30, Cond.initialized RX4, Cond.methodLink RL 9 yX3_init, Cond.instanceMethod yX3_init, Cond.code yX3_init cX3_init 1 none, Cond.methodLink RX3 3 objectInit, Cond.instanceMethod objectInit, Cond.code objectInit ⟨#[0xb1]⟩ 1 none, Cond.classLink RX3 9 RX2, Cond.instantiable RX2 2, Cond.initialized RX2, Cond.fieldLink RX3 12 "WineByYears" "page" "LWineByYears$Page;", Cond.classLink RX3 16 RX1, Cond.instantiable RX1 11, Cond.initialized RX1, Cond.fieldLink RX3 19 "WineByYears" "now" "LWineByYears$Cellar;", Cond.fieldLink RX3 23 "WineByYears" "kept" "LWineByYears$Cellar;", Cond.fieldLink RX3 26 "WineByYears" "tried" "LWineByYears$Cellar;", Cond.classLink RX3 29 RX0, Cond.instantiable RX0 2]
def wsL_law_r2 : List Cond := [Cond.initialized RX0, Cond.fieldLink RX3 32 "WineByYears" "mixed" "LWineByYears$Cask;", Cond.fieldLink RX3 36 "WineByYears" "source" "LWineByYears$Cask;", Cond.fieldLink RX3 39 "WineByYears" "hasImage" "Z", Cond.fieldLink RX3 43 "WineByYears" "timesRead" "I", Cond.instanceMethod yX2_init, Cond.code yX2_init cX2_init 1 none, Cond.methodLink RX2 1 objectInit, Cond.arrayClass .int, Cond.fieldLink RX2 9 "WineByYears$Page" "codes" "[I", Cond.methodLink RX3 18 yX1_init, Cond.instanceMethod yX1_init, Cond.code yX1_init cX1_init 2 none, Cond.methodLink RX1 3 objectInit, Cond.classLink RX1 9 RX0, Cond.fieldLink RX1 11 "WineByYears$Cellar" "casks" "[LWineByYears$Cask;", Cond.fieldLink RX1 17 "WineByYears$Cellar" "kinds" "[I", Cond.fieldLink RX1 21 "WineByYears$Cellar" "borns" "[I", Cond.fieldLink RX1 24 "WineByYears$Cellar" "ills" "[I", Cond.fieldLink RX1 27 "WineByYears$Cellar" "trialCasks" "[I", Cond.fieldLink RX1 30 "WineByYears$Cellar" "drinkers" "[I", Cond.instanceMethod yX0_init, Cond.code yX0_init cX0_init 1 none, Cond.methodLink RX0 3 objectInit]
def wsL_law_r3 : List Cond := [Cond.fieldLink RX0 9 "WineByYears$Cask" "ofYear" "[I", Cond.methodLink RL 12 yX4_init, Cond.instanceMethod yX4_init, Cond.code yX4_init cX4_init 1 none, Cond.methodLink RX4 1 objectInit, Cond.fieldLink RX4 7 "WineByYearsModel" "litresOf" "[I", Cond.fieldLink RX4 13 "WineByYearsModel" "thought" "[I", Cond.fieldLink RX4 16 "WineByYearsModel" "kindOf" "[I", Cond.fieldLink RX4 19 "WineByYearsModel" "bornOf" "[I", Cond.fieldLink RX4 22 "WineByYearsModel" "illOf" "[I", Cond.fieldLink RX4 25 "WineByYearsModel" "trialCask" "[I", Cond.fieldLink RX4 28 "WineByYearsModel" "trialIll" "[I", Cond.arrayClass .byte, Cond.fieldLink RX4 31 "WineByYearsModel" "page" "[B", Cond.fieldLink RX4 35 "WineByYearsModel" "mays" "[I", Cond.fieldLink RX4 38 "WineByYearsModel" "left" "[I", Cond.fieldLink RX4 41 "WineByYearsModel" "saved" "[I", Cond.fieldLink RX4 44 "WineByYearsModel" "keptLitres" "[I", Cond.fieldLink RX4 47 "WineByYearsModel" "keptIll" "[I", Cond.fieldLink RX4 50 "WineByYearsModel" "keptCask" "[I", Cond.fieldLink RX4 53 "WineByYearsModel" "keptTrialIll" "[I", Cond.methodLink RL 13 yX3_letter, Cond.instanceMethod yX3_letter, Cond.selects RX3 yX3_letter yX3_letter]
def wsL_law_r4 : List Cond := [Cond.code yX3_letter cX3_letter 2 (some .int), Cond.fieldLink RX3 47 "WineByYears$Page" "length" "I", Cond.methodLink RX3 50 yX2_append, Cond.instanceMethod yX2_append, Cond.selects RX2 yX2_append yX2_append, Cond.code yX2_append cX2_append 2 (some .int), Cond.fieldLink RX2 13 "WineByYears$Page" "length" "I", Cond.methodLink RL 17 yX4_letter, Cond.instanceMethod yX4_letter, Cond.selects RX4 yX4_letter yX4_letter, Cond.code yX4_letter cX4_letter 2 (some .int), Cond.fieldLink RX4 60 "WineByYearsModel" "pageLength" "I", Cond.methodLink RX4 56 yX4_within, Cond.static yX4_within, Cond.code yX4_within cX4_within 3 (some .boolean), Cond.methodLink RL 18 yX3_blank, Cond.instanceMethod yX3_blank, Cond.selects RX3 yX3_blank yX3_blank, Cond.code yX3_blank cX3_blank 1 (some .int), Cond.methodLink RX3 54 yX2_clear, Cond.instanceMethod yX2_clear, Cond.selects RX2 yX2_clear yX2_clear, Cond.code yX2_clear cX2_clear 2 (some .int), Cond.methodLink RL 22 yX4_blank]
def wsL_law_r5 : List Cond := [Cond.instanceMethod yX4_blank, Cond.selects RX4 yX4_blank yX4_blank, Cond.code yX4_blank cX4_blank 2 (some .int), Cond.methodLink RL 23 yX3_fault, Cond.instanceMethod yX3_fault, Cond.selects RX3 yX3_fault yX3_fault, Cond.code yX3_fault cX3_fault 1 (some .int), Cond.methodLink RX3 58 yX2_firstFault, Cond.instanceMethod yX2_firstFault, Cond.selects RX2 yX2_firstFault yX2_firstFault, Cond.code yX2_firstFault cX2_firstFault 2 (some .int), Cond.methodLink RX2 17 yX2_fits, Cond.static yX2_fits, Cond.code yX2_fits cX2_fits 2 (some .boolean), Cond.methodLink RL 26 yX4_fault, Cond.instanceMethod yX4_fault, Cond.selects RX4 yX4_fault yX4_fault, Cond.code yX4_fault cX4_fault 1 (some .int), Cond.methodLink RX4 75 yX4_read, Cond.instanceMethod yX4_read, Cond.selects RX4 yX4_read yX4_read, Cond.code yX4_read cX4_read 2 (some .int), Cond.fieldLink RX4 64 "WineByYearsModel" "isWhole" "Z", Cond.fieldLink RX4 68 "WineByYearsModel" "newMany" "I"]
def wsL_law_r6 : List Cond := [Cond.methodLink RX4 71 yX4_isFigure, Cond.instanceMethod yX4_isFigure, Cond.selects RX4 yX4_isFigure yX4_isFigure, Cond.code yX4_isFigure cX4_isFigure 3 (some .boolean), Cond.methodLink RL 27 yX3_cellar, Cond.instanceMethod yX3_cellar, Cond.selects RX3 yX3_cellar yX3_cellar, Cond.code yX3_cellar cX3_cellar 2 (some .int), Cond.methodLink RX3 61 yX2_casksWritten, Cond.instanceMethod yX2_casksWritten, Cond.selects RX2 yX2_casksWritten yX2_casksWritten, Cond.code yX2_casksWritten cX2_casksWritten 2 (some .int), Cond.methodLink RX2 21 yX2_firstFault, Cond.methodLink RX3 64 yX1_readFrom, Cond.instanceMethod yX1_readFrom, Cond.selects RX1 yX1_readFrom yX1_readFrom, Cond.code yX1_readFrom cX1_readFrom 5 none, Cond.fieldLink RX1 40 "WineByYears$Cellar" "law" "I", Cond.methodLink RX1 44 Lib.Math.min.name, Cond.static Lib.Math.min.name, Cond.initialized "java/lang/Math", Cond.code Lib.Math.min.name Lib.Math.min.code 2 (some .int), Cond.fieldLink RX1 50 "WineByYears$Cellar" "caskCount" "I", Cond.fieldLink RX1 60 "WineByYears$Cellar" "peopleCount" "I"]
def wsL_law_r7 : List Cond := [Cond.methodLink RX1 34 yX2_digitAt, Cond.instanceMethod yX2_digitAt, Cond.selects RX2 yX2_digitAt yX2_digitAt, Cond.code yX2_digitAt cX2_digitAt 2 (some .int), Cond.methodLink RX1 53 yX0_drain, Cond.instanceMethod yX0_drain, Cond.selects RX0 yX0_drain yX0_drain, Cond.code yX0_drain cX0_drain 2 none, Cond.fieldLink RX0 15 "WineByYears$Cask" "litres" "I", Cond.methodLink RX1 56 yX0_put, Cond.instanceMethod yX0_put, Cond.selects RX0 yX0_put yX0_put, Cond.code yX0_put cX0_put 3 none, Cond.methodLink RX1 63 yX1_dropTrials, Cond.instanceMethod yX1_dropTrials, Cond.selects RX1 yX1_dropTrials yX1_dropTrials, Cond.code yX1_dropTrials cX1_dropTrials 2 (some .int), Cond.fieldLink RX1 77 "WineByYears$Cellar" "trialCount" "I", Cond.fieldLink RX1 80 "WineByYears$Cellar" "trialIllBits" "I", Cond.methodLink RL 30 yX4_cellar, Cond.instanceMethod yX4_cellar, Cond.selects RX4 yX4_cellar yX4_cellar, Cond.code yX4_cellar cX4_cellar 2 (some .int), Cond.fieldLink RX4 79 "WineByYearsModel" "law" "I"]
def wsL_law_r8 : List Cond := [Cond.fieldLink RX4 82 "WineByYearsModel" "casks" "I", Cond.fieldLink RX4 85 "WineByYearsModel" "cellars" "I", Cond.fieldLink RX4 88 "WineByYearsModel" "people" "I", Cond.fieldLink RX4 91 "WineByYearsModel" "trials" "I", Cond.methodLink RL 31 yX3_cask, Cond.instanceMethod yX3_cask, Cond.selects RX3 yX3_cask yX3_cask, Cond.code yX3_cask cX3_cask 4 (some .int), Cond.fieldLink RX3 72 "WineByYears$Cellar" "casks" "[LWineByYears$Cask;", Cond.fieldLink RX3 76 "WineByYears$Cask" "ofYear" "[I", Cond.fieldLink RX3 80 "WineByYears$Cask" "litres" "I", Cond.fieldLink RX3 83 "WineByYears$Cellar" "law" "I", Cond.methodLink RX3 68 yX1_hasCask, Cond.instanceMethod yX1_hasCask, Cond.selects RX1 yX1_hasCask yX1_hasCask, Cond.code yX1_hasCask cX1_hasCask 2 (some .boolean), Cond.methodLink RX3 86 yX0_age, Cond.instanceMethod yX0_age, Cond.selects RX0 yX0_age yX0_age, Cond.code yX0_age cX0_age 2 (some .int), Cond.methodLink RX0 30 yX0_latestYear, Cond.instanceMethod yX0_latestYear, Cond.selects RX0 yX0_latestYear yX0_latestYear, Cond.code yX0_latestYear cX0_latestYear 2 (some .int)]
def wsL_law_r9 : List Cond := [Cond.methodLink RX0 34 yX0_earliestYear, Cond.instanceMethod yX0_earliestYear, Cond.selects RX0 yX0_earliestYear yX0_earliestYear, Cond.code yX0_earliestYear cX0_earliestYear 2 (some .int), Cond.methodLink RX0 37 yX0_commonestYear, Cond.instanceMethod yX0_commonestYear, Cond.selects RX0 yX0_commonestYear yX0_commonestYear, Cond.code yX0_commonestYear cX0_commonestYear 3 (some .int), Cond.methodLink RX0 40 yX0_yearSum, Cond.instanceMethod yX0_yearSum, Cond.selects RX0 yX0_yearSum yX0_yearSum, Cond.code yX0_yearSum cX0_yearSum 3 (some .int), Cond.methodLink RX3 89 yX1_whoMay, Cond.instanceMethod yX1_whoMay, Cond.selects RX1 yX1_whoMay yX1_whoMay, Cond.code yX1_whoMay cX1_whoMay 6 (some .int), Cond.methodLink RX1 89 yX0_age, Cond.methodLink RX1 92 yX0_yearBits, Cond.instanceMethod yX0_yearBits, Cond.selects RX0 yX0_yearBits yX0_yearBits, Cond.code yX0_yearBits cX0_yearBits 3 (some .int), Cond.methodLink RX1 95 yJ6_bitCount_0f7a4, Cond.static yJ6_bitCount_0f7a4, Cond.initialized RJ6]
def wsL_law_r10 : List Cond := [Cond.code yJ6_bitCount_0f7a4 cJ6_bitCount_0f7a4 1 (some .int), Cond.constant RJ6 265 (1431655765), Cond.constant RJ6 266 (858993459), Cond.constant RJ6 267 (252645135), Cond.static yX3_mayDrink, Cond.code yX3_mayDrink cX3_mayDrink 4 (some .boolean), Cond.methodLink RX3 93 yX0_yearBits, Cond.methodLink RL 35 yX4_cask, Cond.instanceMethod yX4_cask, Cond.selects RX4 yX4_cask yX4_cask, Cond.code yX4_cask cX4_cask 3 (some .int), Cond.methodLink RX4 126 yX4_isCask, Cond.instanceMethod yX4_isCask, Cond.selects RX4 yX4_isCask yX4_isCask, Cond.code yX4_isCask cX4_isCask 2 (some .boolean), Cond.methodLink RX4 130 yX4_caskNow, Cond.instanceMethod yX4_caskNow, Cond.selects RX4 yX4_caskNow yX4_caskNow, Cond.code yX4_caskNow cX4_caskNow 3 (some .int), Cond.methodLink RX4 120 yX4_think, Cond.instanceMethod yX4_think, Cond.selects RX4 yX4_think yX4_think, Cond.code yX4_think cX4_think 2 none, Cond.methodLink RX4 94 yX4_clear]
def wsL_law_r11 : List Cond := [Cond.instanceMethod yX4_clear, Cond.selects RX4 yX4_clear yX4_clear, Cond.code yX4_clear cX4_clear 2 none, Cond.methodLink RX4 97 yX4_add, Cond.instanceMethod yX4_add, Cond.selects RX4 yX4_add yX4_add, Cond.code yX4_add cX4_add 3 none, Cond.methodLink RX4 101 yX4_litresThought, Cond.instanceMethod yX4_litresThought, Cond.selects RX4 yX4_litresThought yX4_litresThought, Cond.code yX4_litresThought cX4_litresThought 3 (some .int), Cond.methodLink RX4 107 yX4_ageThought, Cond.instanceMethod yX4_ageThought, Cond.selects RX4 yX4_ageThought yX4_ageThought, Cond.code yX4_ageThought cX4_ageThought 6 (some .int), Cond.methodLink RX4 104 yX4_latestThought, Cond.instanceMethod yX4_latestThought, Cond.selects RX4 yX4_latestThought yX4_latestThought, Cond.code yX4_latestThought cX4_latestThought 3 (some .int), Cond.methodLink RX4 123 yX4_whoMay, Cond.instanceMethod yX4_whoMay, Cond.selects RX4 yX4_whoMay yX4_whoMay, Cond.code yX4_whoMay cX4_whoMay 3 (some .int), Cond.methodLink RX4 117 yX4_mayThought]
def wsL_law_r12 : List Cond := [Cond.instanceMethod yX4_mayThought, Cond.selects RX4 yX4_mayThought yX4_mayThought, Cond.code yX4_mayThought cX4_mayThought 4 (some .boolean), Cond.methodLink RX4 110 yX4_yearsThought, Cond.instanceMethod yX4_yearsThought, Cond.selects RX4 yX4_yearsThought yX4_yearsThought, Cond.code yX4_yearsThought cX4_yearsThought 3 (some .int), Cond.methodLink RX4 113 yX4_size, Cond.static yX4_size, Cond.code yX4_size cX4_size 3 (some .int), Cond.methodLink RL 36 yX3_person, Cond.instanceMethod yX3_person, Cond.selects RX3 yX3_person yX3_person, Cond.code yX3_person cX3_person 3 (some .int), Cond.fieldLink RX3 103 "WineByYears$Cellar" "peopleCount" "I", Cond.methodLink RX3 96 yX3_isKind, Cond.static yX3_isKind, Cond.code yX3_isKind cX3_isKind 1 (some .boolean), Cond.methodLink RX3 99 yX1_isThere, Cond.instanceMethod yX1_isThere, Cond.selects RX1 yX1_isThere yX1_isThere, Cond.code yX1_isThere cX1_isThere 1 (some .boolean), Cond.methodLink RX3 106 yX1_welcome, Cond.instanceMethod yX1_welcome]
def wsL_law_r13 : List Cond := [Cond.selects RX1 yX1_welcome yX1_welcome, Cond.code yX1_welcome cX1_welcome 4 (some .int), Cond.methodLink RL 39 yX4_person, Cond.instanceMethod yX4_person, Cond.selects RX4 yX4_person yX4_person, Cond.code yX4_person cX4_person 3 (some .int), Cond.methodLink RL 40 yX3_about, Cond.instanceMethod yX3_about, Cond.selects RX3 yX3_about yX3_about, Cond.code yX3_about cX3_about 3 (some .int), Cond.fieldLink RX3 113 "WineByYears$Cellar" "kinds" "[I", Cond.fieldLink RX3 116 "WineByYears$Cellar" "borns" "[I", Cond.fieldLink RX3 122 "WineByYears$Cellar" "ills" "[I", Cond.methodLink RX3 110 yX1_hasPerson, Cond.instanceMethod yX1_hasPerson, Cond.selects RX1 yX1_hasPerson yX1_hasPerson, Cond.code yX1_hasPerson cX1_hasPerson 2 (some .boolean), Cond.methodLink RX3 119 yX1_casksFor, Cond.instanceMethod yX1_casksFor, Cond.selects RX1 yX1_casksFor yX1_casksFor, Cond.code yX1_casksFor cX1_casksFor 4 (some .int), Cond.methodLink RX1 108 yX1_allMay, Cond.instanceMethod yX1_allMay, Cond.selects RX1 yX1_allMay yX1_allMay]
def wsL_law_r14 : List Cond := [Cond.code yX1_allMay cX1_allMay 3 (some .boolean), Cond.methodLink RX1 104 yX1_whoMay, Cond.methodLink RL 43 yX4_about, Cond.instanceMethod yX4_about, Cond.selects RX4 yX4_about yX4_about, Cond.code yX4_about cX4_about 3 (some .int), Cond.methodLink RX4 137 yX4_isPerson, Cond.instanceMethod yX4_isPerson, Cond.selects RX4 yX4_isPerson yX4_isPerson, Cond.code yX4_isPerson cX4_isPerson 2 (some .boolean), Cond.methodLink RX4 140 yX4_personNow, Cond.instanceMethod yX4_personNow, Cond.selects RX4 yX4_personNow yX4_personNow, Cond.code yX4_personNow cX4_personNow 3 (some .int), Cond.methodLink RX4 134 yX4_mayOf, Cond.instanceMethod yX4_mayOf, Cond.selects RX4 yX4_mayOf yX4_mayOf, Cond.code yX4_mayOf cX4_mayOf 4 (some .int), Cond.methodLink RL 44 yX3_as, Cond.instanceMethod yX3_as, Cond.selects RX3 yX3_as yX3_as, Cond.code yX3_as cX3_as 3 (some .int), Cond.methodLink RX3 125 yX3_isOfKind, Cond.static yX3_isOfKind]
def wsL_law_r15 : List Cond := [Cond.code yX3_isOfKind cX3_isOfKind 2 (some .boolean), Cond.methodLink RL 47 yX4_as, Cond.instanceMethod yX4_as, Cond.selects RX4 yX4_as yX4_as, Cond.code yX4_as cX4_as 4 (some .int), Cond.methodLink RL 48 yX3_drink, Cond.instanceMethod yX3_drink, Cond.selects RX3 yX3_drink yX3_drink, Cond.code yX3_drink cX3_drink 3 (some .int), Cond.methodLink RX3 129 yX1_sip, Cond.instanceMethod yX1_sip, Cond.selects RX1 yX1_sip yX1_sip, Cond.code yX1_sip cX1_sip 4 (some .int), Cond.fieldLink RX1 86 "WineByYears$Cask" "litres" "I", Cond.methodLink RX1 112 yX1_hasPerson, Cond.methodLink RX1 116 yX1_hasCask, Cond.methodLink RX1 119 yX0_takeLatest, Cond.instanceMethod yX0_takeLatest, Cond.selects RX0 yX0_takeLatest yX0_takeLatest, Cond.code yX0_takeLatest cX0_takeLatest 2 (some .int), Cond.methodLink RX0 19 yX0_put, Cond.methodLink RL 51 yX4_drink, Cond.instanceMethod yX4_drink, Cond.selects RX4 yX4_drink yX4_drink]
def wsL_law_r16 : List Cond := [Cond.code yX4_drink cX4_drink 5 (some .int), Cond.methodLink RX4 143 yX4_latestIn, Cond.instanceMethod yX4_latestIn, Cond.selects RX4 yX4_latestIn yX4_latestIn, Cond.code yX4_latestIn cX4_latestIn 2 (some .int), Cond.methodLink RL 52 yX3_pour, Cond.instanceMethod yX3_pour, Cond.selects RX3 yX3_pour yX3_pour, Cond.code yX3_pour cX3_pour 7 (some .int), Cond.methodLink RX3 132 yX0_room, Cond.instanceMethod yX0_room, Cond.selects RX0 yX0_room yX0_room, Cond.code yX0_room cX0_room 1 (some .int), Cond.methodLink RX3 135 yX0_takeLatest, Cond.methodLink RX3 138 yX0_put, Cond.methodLink RL 56 yX4_pour, Cond.instanceMethod yX4_pour, Cond.selects RX4 yX4_pour yX4_pour, Cond.code yX4_pour cX4_pour 5 (some .int), Cond.methodLink RX4 146 yX4_litresIn, Cond.instanceMethod yX4_litresIn, Cond.selects RX4 yX4_litresIn yX4_litresIn, Cond.code yX4_litresIn cX4_litresIn 2 (some .int), Cond.methodLink RX4 149 yX4_pourOne]
def wsL_law_r17 : List Cond := [Cond.instanceMethod yX4_pourOne, Cond.selects RX4 yX4_pourOne yX4_pourOne, Cond.code yX4_pourOne cX4_pourOne 4 none, Cond.methodLink RL 57 yX3_table, Cond.instanceMethod yX3_table, Cond.selects RX3 yX3_table yX3_table, Cond.code yX3_table cX3_table 2 (some .int), Cond.methodLink RX3 142 yX1_arePeople, Cond.instanceMethod yX1_arePeople, Cond.selects RX1 yX1_arePeople yX1_arePeople, Cond.code yX1_arePeople cX1_arePeople 2 (some .boolean), Cond.methodLink RX1 83 yX1_allPeople, Cond.instanceMethod yX1_allPeople, Cond.selects RX1 yX1_allPeople yX1_allPeople, Cond.code yX1_allPeople cX1_allPeople 1 (some .int), Cond.methodLink RX3 145 yX1_seated, Cond.instanceMethod yX1_seated, Cond.selects RX1 yX1_seated yX1_seated, Cond.code yX1_seated cX1_seated 4 (some .int), Cond.methodLink RX1 122 yX1_boundBy, Cond.instanceMethod yX1_boundBy, Cond.selects RX1 yX1_boundBy yX1_boundBy, Cond.code yX1_boundBy cX1_boundBy 5 (some .int), Cond.methodLink RL 60 yX4_table]
def wsL_law_r18 : List Cond := [Cond.instanceMethod yX4_table, Cond.selects RX4 yX4_table yX4_table, Cond.code yX4_table cX4_table 2 (some .int), Cond.methodLink RX4 159 yX4_arePeople, Cond.instanceMethod yX4_arePeople, Cond.selects RX4 yX4_arePeople yX4_arePeople, Cond.code yX4_arePeople cX4_arePeople 2 (some .boolean), Cond.methodLink RX4 162 yX4_tableNow, Cond.instanceMethod yX4_tableNow, Cond.selects RX4 yX4_tableNow yX4_tableNow, Cond.code yX4_tableNow cX4_tableNow 6 (some .int), Cond.methodLink RX4 156 yX4_seated, Cond.instanceMethod yX4_seated, Cond.selects RX4 yX4_seated yX4_seated, Cond.code yX4_seated cX4_seated 7 (some .int), Cond.methodLink RX4 153 yX4_has, Cond.static yX4_has, Cond.code yX4_has cX4_has 2 (some .boolean), Cond.methodLink RL 61 yX3_blend, Cond.instanceMethod yX3_blend, Cond.selects RX3 yX3_blend yX3_blend, Cond.code yX3_blend cX3_blend 5 (some .int), Cond.methodLink RX3 148 yX3_isZeroOrOne, Cond.static yX3_isZeroOrOne]
def wsL_law_r19 : List Cond := [Cond.code yX3_isZeroOrOne cX3_isZeroOrOne 1 (some .boolean), Cond.methodLink RX3 151 yX3_leastBlend, Cond.instanceMethod yX3_leastBlend, Cond.selects RX3 yX3_leastBlend yX3_leastBlend, Cond.code yX3_leastBlend cX3_leastBlend 6 (some .int), Cond.fieldLink RX3 161 "WineByYears$Cellar" "caskCount" "I", Cond.methodLink RX3 236 yJ6_bitCount_0f7a4, Cond.methodLink RX3 241 yX3_mix, Cond.instanceMethod yX3_mix, Cond.selects RX3 yX3_mix yX3_mix, Cond.code yX3_mix cX3_mix 3 (some .boolean), Cond.methodLink RX3 244 yX0_drain, Cond.methodLink RX3 247 yX0_putAllOf, Cond.instanceMethod yX0_putAllOf, Cond.selects RX0 yX0_putAllOf yX0_putAllOf, Cond.code yX0_putAllOf cX0_putAllOf 3 none, Cond.methodLink RX3 157 yX1_allMay, Cond.methodLink RX3 154 yX3_casksIn, Cond.static yX3_casksIn, Cond.code yX3_casksIn cX3_casksIn 1 (some .int), Cond.methodLink RL 64 yX4_blend, Cond.instanceMethod yX4_blend, Cond.selects RX4 yX4_blend yX4_blend, Cond.code yX4_blend cX4_blend 4 (some .int)]
def wsL_law_r20 : List Cond := [Cond.methodLink RX4 168 yX4_blendNow, Cond.instanceMethod yX4_blendNow, Cond.selects RX4 yX4_blendNow yX4_blendNow, Cond.code yX4_blendNow cX4_blendNow 7 (some .int), Cond.methodLink RX4 165 yX4_isBlend, Cond.instanceMethod yX4_isBlend, Cond.selects RX4 yX4_isBlend yX4_isBlend, Cond.code yX4_isBlend cX4_isBlend 7 (some .boolean), Cond.methodLink RL 65 yX3_top, Cond.instanceMethod yX3_top, Cond.selects RX3 yX3_top yX3_top, Cond.code yX3_top cX3_top 8 (some .int), Cond.methodLink RX3 164 yX3_litresToTop, Cond.instanceMethod yX3_litresToTop, Cond.selects RX3 yX3_litresToTop yX3_litresToTop, Cond.code yX3_litresToTop cX3_litresToTop 6 (some .int), Cond.methodLink RX3 253 Lib.Math.min.name, Cond.methodLink RX3 251 yX0_become, Cond.instanceMethod yX0_become, Cond.selects RX0 yX0_become yX0_become, Cond.code yX0_become cX0_become 2 none, Cond.methodLink RX0 23 yX0_drain, Cond.methodLink RX0 26 yX0_putAllOf, Cond.methodLink RL 68 yX4_top]
def wsL_law_r21 : List Cond := [Cond.instanceMethod yX4_top, Cond.selects RX4 yX4_top yX4_top, Cond.code yX4_top cX4_top 4 (some .int), Cond.methodLink RX4 179 yX4_topNow, Cond.instanceMethod yX4_topNow, Cond.selects RX4 yX4_topNow yX4_topNow, Cond.code yX4_topNow cX4_topNow 7 (some .int), Cond.methodLink RX4 175 yX4_isTopped, Cond.instanceMethod yX4_isTopped, Cond.selects RX4 yX4_isTopped yX4_isTopped, Cond.code yX4_isTopped cX4_isTopped 5 (some .boolean), Cond.methodLink RX4 172 yX4_addLitres, Cond.instanceMethod yX4_addLitres, Cond.selects RX4 yX4_addLitres yX4_addLitres, Cond.code yX4_addLitres cX4_addLitres 6 none, Cond.methodLink RL 69 yX3_trial, Cond.instanceMethod yX3_trial, Cond.selects RX3 yX3_trial yX3_trial, Cond.code yX3_trial cX3_trial 3 (some .int), Cond.fieldLink RX3 168 "WineByYears$Cellar" "trialCount" "I", Cond.methodLink RX3 171 yX1_noteTrial, Cond.instanceMethod yX1_noteTrial, Cond.selects RX1 yX1_noteTrial yX1_noteTrial, Cond.code yX1_noteTrial cX1_noteTrial 3 (some .int)]
def wsL_law_r22 : List Cond := [Cond.methodLink RL 73 yX4_trial, Cond.instanceMethod yX4_trial, Cond.selects RX4 yX4_trial yX4_trial, Cond.code yX4_trial cX4_trial 3 (some .int), Cond.methodLink RL 74 yX3_forget, Cond.instanceMethod yX3_forget, Cond.selects RX3 yX3_forget yX3_forget, Cond.code yX3_forget cX3_forget 1 (some .int), Cond.methodLink RX3 175 yX1_dropTrials, Cond.methodLink RL 77 yX4_forget, Cond.instanceMethod yX4_forget, Cond.selects RX4 yX4_forget yX4_forget, Cond.code yX4_forget cX4_forget 2 (some .int), Cond.methodLink RL 78 yX3_births, Cond.instanceMethod yX3_births, Cond.selects RX3 yX3_births yX3_births, Cond.code yX3_births cX3_births 2 (some .int), Cond.methodLink RX3 178 yX1_possibleBirths, Cond.instanceMethod yX1_possibleBirths, Cond.selects RX1 yX1_possibleBirths yX1_possibleBirths, Cond.code yX1_possibleBirths cX1_possibleBirths 7 (some .int), Cond.methodLink RX1 125 yX1_birthsThatMay, Cond.instanceMethod yX1_birthsThatMay, Cond.selects RX1 yX1_birthsThatMay yX1_birthsThatMay]
def wsL_law_r23 : List Cond := [Cond.code yX1_birthsThatMay cX1_birthsThatMay 7 (some .int), Cond.methodLink RL 81 yX4_births, Cond.instanceMethod yX4_births, Cond.selects RX4 yX4_births yX4_births, Cond.code yX4_births cX4_births 2 (some .int), Cond.methodLink RX4 185 yX4_birthsNow, Cond.instanceMethod yX4_birthsNow, Cond.selects RX4 yX4_birthsNow yX4_birthsNow, Cond.code yX4_birthsNow cX4_birthsNow 4 (some .int), Cond.methodLink RX4 182 yX4_isBorn, Cond.instanceMethod yX4_isBorn, Cond.selects RX4 yX4_isBorn yX4_isBorn, Cond.code yX4_isBorn cX4_isBorn 5 (some .boolean), Cond.methodLink RL 82 yX3_ask, Cond.instanceMethod yX3_ask, Cond.selects RX3 yX3_ask yX3_ask, Cond.code yX3_ask cX3_ask 2 (some .int), Cond.methodLink RX3 181 yX1_bestQuestion, Cond.instanceMethod yX1_bestQuestion, Cond.selects RX1 yX1_bestQuestion yX1_bestQuestion, Cond.code yX1_bestQuestion cX1_bestQuestion 7 (some .int), Cond.methodLink RX1 129 yX1_possibleBirths, Cond.methodLink RX1 132 yX1_leftAtWorst, Cond.static yX1_leftAtWorst]
def wsL_law_r24 : List Cond := [Cond.code yX1_leftAtWorst cX1_leftAtWorst 2 (some .int), Cond.methodLink RX1 135 Lib.Math.max.name, Cond.static Lib.Math.max.name, Cond.code Lib.Math.max.name Lib.Math.max.code 2 (some .int), Cond.methodLink RL 85 yX4_ask, Cond.instanceMethod yX4_ask, Cond.selects RX4 yX4_ask yX4_ask, Cond.code yX4_ask cX4_ask 2 (some .int), Cond.methodLink RX4 189 yX4_askNow, Cond.instanceMethod yX4_askNow, Cond.selects RX4 yX4_askNow yX4_askNow, Cond.code yX4_askNow cX4_askNow 9 (some .int), Cond.constant RX4 188 (268435456), Cond.methodLink RL 86 yX3_topped, Cond.instanceMethod yX3_topped, Cond.selects RX3 yX3_topped yX3_topped, Cond.code yX3_topped cX3_topped 8 (some .int), Cond.methodLink RX3 184 yX3_canPourOne, Cond.instanceMethod yX3_canPourOne, Cond.selects RX3 yX3_canPourOne yX3_canPourOne, Cond.code yX3_canPourOne cX3_canPourOne 3 (some .boolean), Cond.methodLink RX3 187 yX3_whoMayAfter, Cond.instanceMethod yX3_whoMayAfter, Cond.selects RX3 yX3_whoMayAfter yX3_whoMayAfter]
def wsL_law_r25 : List Cond := [Cond.code yX3_whoMayAfter cX3_whoMayAfter 4 (some .int), Cond.methodLink RX3 258 yX0_latestYear, Cond.methodLink RL 89 yX4_topped, Cond.instanceMethod yX4_topped, Cond.selects RX4 yX4_topped yX4_topped, Cond.code yX4_topped cX4_topped 4 (some .int), Cond.methodLink RX4 198 yX4_toppedNow, Cond.instanceMethod yX4_toppedNow, Cond.selects RX4 yX4_toppedNow yX4_toppedNow, Cond.code yX4_toppedNow cX4_toppedNow 11 (some .int), Cond.fieldLink RX4 192 "WineByYearsModel" "pouredYear" "I", Cond.methodLink RX4 195 yX4_whoBehind, Cond.instanceMethod yX4_whoBehind, Cond.selects RX4 yX4_whoBehind yX4_whoBehind, Cond.code yX4_whoBehind cX4_whoBehind 6 (some .int), Cond.methodLink RL 90 yX3_feasts, Cond.instanceMethod yX3_feasts, Cond.selects RX3 yX3_feasts yX3_feasts, Cond.code yX3_feasts cX3_feasts 9 (some .int), Cond.methodLink RX3 190 yX1_become, Cond.instanceMethod yX1_become, Cond.selects RX1 yX1_become yX1_become, Cond.code yX1_become cX1_become 3 none, Cond.methodLink RX1 71 arraycopyName]
def wsL_law_r26 : List Cond := [Cond.native arraycopyName, Cond.static arraycopyName, Cond.initialized "java/lang/System", Cond.methodLink RX1 67 yX0_become, Cond.methodLink RX3 194 yX3_nextSeed, Cond.static yX3_nextSeed, Cond.code yX3_nextSeed cX3_nextSeed 1 (some .int), Cond.constantLong RX3 261 (1103515245), Cond.constantLong RX3 263 (12345), Cond.constantLong RX3 265 (2147483647), Cond.methodLink RX3 197 yX3_draw, Cond.static yX3_draw, Cond.code yX3_draw cX3_draw 2 (some .int), Cond.constant RX3 267 (65536), Cond.methodLink RX3 200 yX1_litresInAll, Cond.instanceMethod yX1_litresInAll, Cond.selects RX1 yX1_litresInAll yX1_litresInAll, Cond.code yX1_litresInAll cX1_litresInAll 3 (some .int), Cond.methodLink RL 93 yX4_feasts, Cond.instanceMethod yX4_feasts, Cond.selects RX4 yX4_feasts yX4_feasts, Cond.code yX4_feasts cX4_feasts 4 (some .int), Cond.methodLink RX4 219 yX4_feastsNow, Cond.instanceMethod yX4_feastsNow]
def wsL_law_r27 : List Cond := [Cond.selects RX4 yX4_feastsNow yX4_feastsNow, Cond.code yX4_feastsNow cX4_feastsNow 9 (some .int), Cond.fieldLink RX4 203 "WineByYearsModel" "seedNow" "J", Cond.methodLink RX4 213 yX4_draw, Cond.instanceMethod yX4_draw, Cond.selects RX4 yX4_draw yX4_draw, Cond.code yX4_draw cX4_draw 2 (some .int), Cond.constantLong RX4 201 (1103515245), Cond.constantLong RX4 207 (12345), Cond.constantLong RX4 209 (2147483647), Cond.constantLong RX4 211 (65536), Cond.methodLink RX4 216 yX4_litresAll, Cond.instanceMethod yX4_litresAll, Cond.selects RX4 yX4_litresAll yX4_litresAll, Cond.code yX4_litresAll cX4_litresAll 3 (some .int), Cond.methodLink RL 94 yX3_image, Cond.instanceMethod yX3_image, Cond.selects RX3 yX3_image yX3_image, Cond.code yX3_image cX3_image 1 (some .int), Cond.methodLink RL 97 yX4_image, Cond.instanceMethod yX4_image, Cond.selects RX4 yX4_image yX4_image, Cond.code yX4_image cX4_image 2 (some .int), Cond.fieldLink RX4 222 "WineByYearsModel" "isKept" "Z"]
def wsL_law_r28 : List Cond := [Cond.fieldLink RX4 225 "WineByYearsModel" "keptCellar" "I", Cond.fieldLink RX4 228 "WineByYearsModel" "keptPeople" "I", Cond.fieldLink RX4 231 "WineByYearsModel" "keptTrials" "I", Cond.methodLink RL 98 yX3_restore, Cond.instanceMethod yX3_restore, Cond.selects RX3 yX3_restore yX3_restore, Cond.code yX3_restore cX3_restore 1 (some .int), Cond.methodLink RL 101 yX4_restore, Cond.instanceMethod yX4_restore, Cond.selects RX4 yX4_restore yX4_restore, Cond.code yX4_restore cX4_restore 2 (some .int), Cond.methodLink RL 102 yX3_count, Cond.instanceMethod yX3_count, Cond.selects RX3 yX3_count yX3_count, Cond.code yX3_count cX3_count 2 (some .int), Cond.methodLink RX3 203 yX1_illInAll, Cond.instanceMethod yX1_illInAll, Cond.selects RX1 yX1_illInAll yX1_illInAll, Cond.code yX1_illInAll cX1_illInAll 3 (some .int), Cond.methodLink RL 105 yX4_count, Cond.instanceMethod yX4_count, Cond.selects RX4 yX4_count yX4_count, Cond.code yX4_count cX4_count 2 (some .int), Cond.methodLink RX4 237 yX4_howMany]
def wsL_law_r29 : List Cond := [Cond.instanceMethod yX4_howMany, Cond.selects RX4 yX4_howMany yX4_howMany, Cond.code yX4_howMany cX4_howMany 2 (some .int), Cond.methodLink RX4 234 yX4_illAll, Cond.instanceMethod yX4_illAll, Cond.selects RX4 yX4_illAll yX4_illAll, Cond.code yX4_illAll cX4_illAll 3 (some .int), Cond.methodLink RL 106 yX3_digest, Cond.instanceMethod yX3_digest, Cond.selects RX3 yX3_digest yX3_digest, Cond.code yX3_digest cX3_digest 5 (some .long), Cond.constantLong RX3 206 (863), Cond.fieldLink RX3 222 "WineByYears$Page" "codes" "[I", Cond.methodLink RX3 208 yX3_withCask, Cond.instanceMethod yX3_withCask, Cond.selects RX3 yX3_withCask yX3_withCask, Cond.code yX3_withCask cX3_withCask 7 (some .long), Cond.methodLink RX3 230 yX3_cask, Cond.methodLink RX3 215 yX3_with, Cond.static yX3_with, Cond.code yX3_with cX3_with 3 (some .long), Cond.constantLong RX3 228 (31), Cond.methodLink RX3 212 yX3_about, Cond.methodLink RX3 218 yX3_withQuestions]
def wsL_law_r30 : List Cond := [Cond.instanceMethod yX3_withQuestions, Cond.selects RX3 yX3_withQuestions yX3_withQuestions, Cond.code yX3_withQuestions cX3_withQuestions 8 (some .long), Cond.methodLink RX3 233 yX1_allPeople, Cond.methodLink RX3 225 yX3_count, Cond.methodLink RL 110 yX4_digest, Cond.instanceMethod yX4_digest, Cond.selects RX4 yX4_digest yX4_digest, Cond.code yX4_digest cX4_digest 3 (some .long), Cond.constantLong RX4 249 (863), Cond.fieldLink RX4 242 "WineByYearsModel" "h" "J", Cond.methodLink RX4 245 yX4_mix, Cond.instanceMethod yX4_mix, Cond.selects RX4 yX4_mix yX4_mix, Cond.code yX4_mix cX4_mix 3 none, Cond.constantLong RX4 240 (31), Cond.methodLink RX4 251 yX4_mixCellar, Cond.instanceMethod yX4_mixCellar, Cond.selects RX4 yX4_mixCellar yX4_mixCellar, Cond.code yX4_mixCellar cX4_mixCellar 3 none]
def wsL_law : List Cond := (wsL_law_r1 ++ (wsL_law_r2 ++ (wsL_law_r3 ++ (wsL_law_r4 ++ (wsL_law_r5 ++ (wsL_law_r6 ++ (wsL_law_r7 ++ (wsL_law_r8 ++ (wsL_law_r9 ++ (wsL_law_r10 ++ (wsL_law_r11 ++ (wsL_law_r12 ++ (wsL_law_r13 ++ (wsL_law_r14 ++ (wsL_law_r15 ++ (wsL_law_r16 ++ (wsL_law_r17 ++ (wsL_law_r18 ++ (wsL_law_r19 ++ (wsL_law_r20 ++ (wsL_law_r21 ++ (wsL_law_r22 ++ (wsL_law_r23 ++ (wsL_law_r24 ++ (wsL_law_r25 ++ (wsL_law_r26 ++ (wsL_law_r27 ++ (wsL_law_r28 ++ (wsL_law_r29 ++ wsL_law_r30))))))))))))))))))))))))))))) ++ wsX30 ++ wsX40 ++ wsX20 ++ wsX10 ++ wsX00 ++ ([] : List Cond)
theorem lw_sub (ws : List Cond) (ps : List Nat) (h : ps.filterMap (fun i => lw_tbl[i]?) = ws) : ∀ w ∈ ws, w ∈ lw_tbl := fun w hw => by
  rw [← h] at hw
  obtain ⟨i, -, hi⟩ := List.mem_filterMap.mp hw
  exact List.mem_of_getElem? hi
set_option maxRecDepth 20000 in
theorem in_wsL_law_r1 : ∀ w ∈ wsL_law_r1, w ∈ lw_tbl := lw_sub _ [60, 61, 52, 522, 523, 56, 62, 63, 64, 65, 66, 67, 68, 69, 53, 151, 84, 85, 54, 152, 153, 154, 149, 92] rfl
set_option maxRecDepth 20000 in
theorem in_wsL_law_r2 : ∀ w ∈ wsL_law_r2, w ∈ lw_tbl := lw_sub _ [55, 155, 156, 157, 158, 71, 72, 73, 83, 74, 86, 87, 88, 89, 90, 107, 109, 111, 113, 115, 116, 94, 95, 96] rfl
set_option maxRecDepth 20000 in
theorem in_wsL_law_r3 : ∀ w ∈ wsL_law_r3, w ∈ lw_tbl := lw_sub _ [97, 524, 525, 526, 527, 531, 532, 534, 535, 536, 538, 539, 619, 541, 544, 545, 548, 553, 554, 555, 556, 176, 177, 178] rfl
set_option maxRecDepth 20000 in
theorem in_wsL_law_r4 : ∀ w ∈ wsL_law_r4, w ∈ lw_tbl := lw_sub _ [179, 77, 180, 181, 182, 183, 76, 620, 621, 622, 623, 540, 624, 625, 626, 184, 185, 186, 187, 188, 189, 190, 191, 627] rfl
set_option maxRecDepth 20000 in
theorem in_wsL_law_r5 : ∀ w ∈ wsL_law_r5, w ∈ lw_tbl := lw_sub _ [628, 629, 630, 192, 193, 194, 195, 196, 197, 198, 199, 200, 201, 202, 631, 632, 633, 634, 635, 637, 12, 638, 542, 543] rfl
set_option maxRecDepth 20000 in
theorem in_wsL_law_r6 : ∀ w ∈ wsL_law_r6, w ∈ lw_tbl := lw_sub _ [639, 641, 13, 642, 203, 204, 205, 206, 207, 208, 209, 210, 211, 212, 213, 214, 215, 117, 220, 221, 57, 222, 119, 121] rfl
set_option maxRecDepth 20000 in
theorem in_wsL_law_r7 : ∀ w ∈ wsL_law_r7, w ∈ lw_tbl := lw_sub _ [216, 217, 218, 219, 223, 224, 225, 226, 99, 227, 228, 229, 230, 231, 232, 233, 234, 123, 125, 643, 644, 645, 646, 529] rfl
set_option maxRecDepth 20000 in
theorem in_wsL_law_r8 : ∀ w ∈ wsL_law_r8, w ∈ lw_tbl := lw_sub _ [530, 528, 533, 537, 235, 236, 237, 238, 108, 98, 100, 118, 239, 240, 241, 242, 243, 244, 245, 246, 247, 248, 249, 250] rfl
set_option maxRecDepth 20000 in
theorem in_wsL_law_r9 : ∀ w ∈ wsL_law_r9, w ∈ lw_tbl := lw_sub _ [251, 253, 0, 254, 255, 257, 1, 258, 259, 261, 2, 262, 263, 264, 265, 266, 267, 268, 269, 270, 271, 272, 273, 58] rfl
set_option maxRecDepth 20000 in
theorem in_wsL_law_r10 : ∀ w ∈ wsL_law_r10, w ∈ lw_tbl := lw_sub _ [274, 275, 276, 277, 279, 280, 281, 647, 648, 649, 650, 651, 653, 14, 654, 655, 657, 15, 658, 659, 661, 16, 662, 663] rfl
set_option maxRecDepth 20000 in
theorem in_wsL_law_r11 : ∀ w ∈ wsL_law_r11, w ∈ lw_tbl := lw_sub _ [665, 17, 666, 667, 669, 18, 670, 671, 673, 19, 674, 675, 677, 20, 678, 679, 681, 21, 682, 683, 685, 22, 686, 687] rfl
set_option maxRecDepth 20000 in
theorem in_wsL_law_r12 : ∀ w ∈ wsL_law_r12, w ∈ lw_tbl := lw_sub _ [689, 23, 690, 691, 693, 24, 694, 695, 696, 697, 282, 283, 284, 285, 122, 286, 287, 288, 289, 290, 291, 292, 293, 294] rfl
set_option maxRecDepth 20000 in
theorem in_wsL_law_r13 : ∀ w ∈ wsL_law_r13, w ∈ lw_tbl := lw_sub _ [295, 296, 698, 699, 700, 701, 297, 298, 299, 300, 110, 112, 114, 301, 302, 303, 304, 305, 306, 307, 308, 309, 310, 311] rfl
set_option maxRecDepth 20000 in
theorem in_wsL_law_r14 : ∀ w ∈ wsL_law_r14, w ∈ lw_tbl := lw_sub _ [312, 313, 702, 703, 704, 705, 706, 708, 25, 709, 710, 712, 26, 713, 714, 716, 27, 717, 314, 315, 316, 317, 318, 319] rfl
set_option maxRecDepth 20000 in
theorem in_wsL_law_r15 : ∀ w ∈ wsL_law_r15, w ∈ lw_tbl := lw_sub _ [320, 718, 719, 720, 721, 321, 322, 323, 324, 325, 326, 327, 328, 101, 329, 330, 331, 332, 333, 334, 335, 722, 723, 724] rfl
set_option maxRecDepth 20000 in
theorem in_wsL_law_r16 : ∀ w ∈ wsL_law_r16, w ∈ lw_tbl := lw_sub _ [725, 726, 728, 28, 729, 336, 337, 338, 339, 340, 341, 342, 343, 344, 345, 730, 731, 732, 733, 734, 736, 29, 737, 738] rfl
set_option maxRecDepth 20000 in
theorem in_wsL_law_r17 : ∀ w ∈ wsL_law_r17, w ∈ lw_tbl := lw_sub _ [740, 30, 741, 346, 347, 348, 349, 350, 351, 352, 353, 354, 355, 356, 357, 358, 359, 360, 361, 362, 364, 3, 365, 742] rfl
set_option maxRecDepth 20000 in
theorem in_wsL_law_r18 : ∀ w ∈ wsL_law_r18, w ∈ lw_tbl := lw_sub _ [743, 744, 745, 746, 748, 31, 749, 750, 752, 32, 753, 754, 756, 33, 757, 758, 759, 760, 366, 367, 368, 369, 370, 371] rfl
set_option maxRecDepth 20000 in
theorem in_wsL_law_r19 : ∀ w ∈ wsL_law_r19, w ∈ lw_tbl := lw_sub _ [372, 373, 375, 4, 376, 120, 377, 378, 380, 5, 381, 382, 383, 384, 385, 386, 387, 388, 389, 390, 761, 762, 763, 764] rfl
set_option maxRecDepth 20000 in
theorem in_wsL_law_r20 : ∀ w ∈ wsL_law_r20, w ∈ lw_tbl := lw_sub _ [765, 767, 34, 768, 769, 771, 35, 772, 391, 392, 393, 394, 395, 397, 6, 398, 405, 399, 400, 401, 402, 403, 404, 773] rfl
set_option maxRecDepth 20000 in
theorem in_wsL_law_r21 : ∀ w ∈ wsL_law_r21, w ∈ lw_tbl := lw_sub _ [774, 775, 776, 777, 779, 36, 780, 781, 783, 37, 784, 785, 787, 38, 788, 406, 407, 408, 409, 124, 410, 411, 412, 413] rfl
set_option maxRecDepth 20000 in
theorem in_wsL_law_r22 : ∀ w ∈ wsL_law_r22, w ∈ lw_tbl := lw_sub _ [789, 790, 791, 792, 414, 415, 416, 417, 418, 793, 794, 795, 796, 419, 420, 421, 422, 423, 424, 425, 426, 427, 429, 7] rfl
set_option maxRecDepth 20000 in
theorem in_wsL_law_r23 : ∀ w ∈ wsL_law_r23, w ∈ lw_tbl := lw_sub _ [430, 797, 798, 799, 800, 801, 803, 39, 804, 805, 807, 40, 808, 431, 432, 433, 434, 435, 436, 437, 438, 439, 440, 441] rfl
set_option maxRecDepth 20000 in
theorem in_wsL_law_r24 : ∀ w ∈ wsL_law_r24, w ∈ lw_tbl := lw_sub _ [442, 443, 444, 445, 809, 810, 811, 812, 813, 815, 41, 816, 817, 446, 447, 448, 449, 450, 452, 8, 453, 454, 456, 9] rfl
set_option maxRecDepth 20000 in
theorem in_wsL_law_r25 : ∀ w ∈ wsL_law_r25, w ∈ lw_tbl := lw_sub _ [457, 458, 818, 819, 820, 821, 822, 824, 42, 825, 546, 826, 828, 43, 829, 459, 460, 461, 462, 463, 464, 465, 466, 468] rfl
set_option maxRecDepth 20000 in
theorem in_wsL_law_r26 : ∀ w ∈ wsL_law_r26, w ∈ lw_tbl := lw_sub _ [470, 469, 59, 467, 471, 472, 473, 474, 475, 476, 477, 478, 479, 480, 481, 482, 483, 484, 830, 831, 832, 833, 834, 836] rfl
set_option maxRecDepth 20000 in
theorem in_wsL_law_r27 : ∀ w ∈ wsL_law_r27, w ∈ lw_tbl := lw_sub _ [44, 837, 547, 838, 840, 45, 841, 842, 843, 844, 845, 846, 848, 46, 849, 485, 486, 487, 488, 850, 851, 852, 853, 549] rfl
set_option maxRecDepth 20000 in
theorem in_wsL_law_r28 : ∀ w ∈ wsL_law_r28, w ∈ lw_tbl := lw_sub _ [550, 551, 552, 489, 490, 491, 492, 854, 855, 856, 857, 493, 494, 495, 496, 497, 498, 499, 500, 858, 859, 860, 861, 862] rfl
set_option maxRecDepth 20000 in
theorem in_wsL_law_r29 : ∀ w ∈ wsL_law_r29, w ∈ lw_tbl := lw_sub _ [864, 47, 865, 866, 868, 48, 869, 501, 502, 503, 504, 505, 75, 506, 508, 10, 509, 510, 511, 512, 513, 514, 515, 516] rfl
set_option maxRecDepth 20000 in
theorem in_wsL_law_r30 : ∀ w ∈ wsL_law_r30, w ∈ lw_tbl := lw_sub _ [518, 11, 519, 520, 521, 870, 871, 872, 873, 874, 557, 875, 877, 49, 878, 879, 880, 882, 50, 883] rfl
set_option maxRecDepth 20000 in
theorem in_wsX30 : ∀ w ∈ wsX30, w ∈ lw_tbl := lw_sub _ [159, 161, 163, 165, 167, 169, 171, 173] rfl
set_option maxRecDepth 20000 in
theorem in_wsX40 : ∀ w ∈ wsX40, w ∈ lw_tbl := lw_sub _ [558, 560, 562, 564, 566, 568, 570, 572, 574, 576, 578, 580, 582, 584, 586, 588, 590, 592, 594, 596, 598, 600, 602, 604, 606, 608, 610, 612, 614, 616] rfl
set_option maxRecDepth 20000 in
theorem in_wsX20 : ∀ w ∈ wsX20, w ∈ lw_tbl := lw_sub _ [78, 80] rfl
set_option maxRecDepth 20000 in
theorem in_wsX10 : ∀ w ∈ wsX10, w ∈ lw_tbl := lw_sub _ [126, 128, 130, 132, 134, 136, 138, 140, 142, 144, 146] rfl
set_option maxRecDepth 20000 in
theorem in_wsX00 : ∀ w ∈ wsX00, w ∈ lw_tbl := lw_sub _ [102, 104] rfl
theorem wsL_law_in : ∀ w ∈ wsL_law, w ∈ lw_tbl := List.forall_mem_append.mpr ⟨List.forall_mem_append.mpr ⟨List.forall_mem_append.mpr ⟨List.forall_mem_append.mpr ⟨List.forall_mem_append.mpr ⟨List.forall_mem_append.mpr ⟨List.forall_mem_append.mpr ⟨in_wsL_law_r1, List.forall_mem_append.mpr ⟨in_wsL_law_r2, List.forall_mem_append.mpr ⟨in_wsL_law_r3, List.forall_mem_append.mpr ⟨in_wsL_law_r4, List.forall_mem_append.mpr ⟨in_wsL_law_r5, List.forall_mem_append.mpr ⟨in_wsL_law_r6, List.forall_mem_append.mpr ⟨in_wsL_law_r7, List.forall_mem_append.mpr ⟨in_wsL_law_r8, List.forall_mem_append.mpr ⟨in_wsL_law_r9, List.forall_mem_append.mpr ⟨in_wsL_law_r10, List.forall_mem_append.mpr ⟨in_wsL_law_r11, List.forall_mem_append.mpr ⟨in_wsL_law_r12, List.forall_mem_append.mpr ⟨in_wsL_law_r13, List.forall_mem_append.mpr ⟨in_wsL_law_r14, List.forall_mem_append.mpr ⟨in_wsL_law_r15, List.forall_mem_append.mpr ⟨in_wsL_law_r16, List.forall_mem_append.mpr ⟨in_wsL_law_r17, List.forall_mem_append.mpr ⟨in_wsL_law_r18, List.forall_mem_append.mpr ⟨in_wsL_law_r19, List.forall_mem_append.mpr ⟨in_wsL_law_r20, List.forall_mem_append.mpr ⟨in_wsL_law_r21, List.forall_mem_append.mpr ⟨in_wsL_law_r22, List.forall_mem_append.mpr ⟨in_wsL_law_r23, List.forall_mem_append.mpr ⟨in_wsL_law_r24, List.forall_mem_append.mpr ⟨in_wsL_law_r25, List.forall_mem_append.mpr ⟨in_wsL_law_r26, List.forall_mem_append.mpr ⟨in_wsL_law_r27, List.forall_mem_append.mpr ⟨in_wsL_law_r28, List.forall_mem_append.mpr ⟨in_wsL_law_r29, in_wsL_law_r30⟩⟩⟩⟩⟩⟩⟩⟩⟩⟩⟩⟩⟩⟩⟩⟩⟩⟩⟩⟩⟩⟩⟩⟩⟩⟩⟩⟩⟩, in_wsX30⟩, in_wsX40⟩, in_wsX20⟩, in_wsX10⟩, in_wsX00⟩, fun _ h => absurd h List.not_mem_nil⟩
theorem inlX0 : ∀ w ∈ wsX00, w ∈ wsL_law := fun _ h => List.mem_append_left _ (List.mem_append_right _ h)
theorem inX0 : ∀ w ∈ wsX00, w ∈ lw_tbl := fun w h => wsL_law_in w (inlX0 w h)
theorem inlX1 : ∀ w ∈ wsX10, w ∈ wsL_law := fun _ h => List.mem_append_left _ (List.mem_append_left _ (List.mem_append_right _ h))
theorem inX1 : ∀ w ∈ wsX10, w ∈ lw_tbl := fun w h => wsL_law_in w (inlX1 w h)
theorem inlX2 : ∀ w ∈ wsX20, w ∈ wsL_law := fun _ h => List.mem_append_left _ (List.mem_append_left _ (List.mem_append_left _ (List.mem_append_right _ h)))
theorem inX2 : ∀ w ∈ wsX20, w ∈ lw_tbl := fun w h => wsL_law_in w (inlX2 w h)
theorem inlX3 : ∀ w ∈ wsX30, w ∈ wsL_law := fun _ h => List.mem_append_left _ (List.mem_append_left _ (List.mem_append_left _ (List.mem_append_left _ (List.mem_append_left _ (List.mem_append_right _ h)))))
theorem inX3 : ∀ w ∈ wsX30, w ∈ lw_tbl := fun w h => wsL_law_in w (inlX3 w h)
theorem inlX4 : ∀ w ∈ wsX40, w ∈ wsL_law := fun _ h => List.mem_append_left _ (List.mem_append_left _ (List.mem_append_left _ (List.mem_append_left _ (List.mem_append_right _ h))))
theorem inX4 : ∀ w ∈ wsX40, w ∈ lw_tbl := fun w h => wsL_law_in w (inlX4 w h)
set_option maxRecDepth 20000 in
theorem ggL_law_X3_init : GoodIn wsL_law wsX3_init := goodIn_r _ [8, 9, 10, 11, 12, 13, 14, 15, 16, 17, 18, 19, 20, 21, 22, 23, 24, 25, 26, 27, 28, 29, 30, 31, 32, 33, 34, 35, 36, 37, 38, 39, 40, 41, 42, 43, 44, 45, 46, 47, 48, 754, 755, 716, 717, 718, 719, 720, 721, 722, 723, 756, 757, 758, 759, 760, 761, 762, 763, 764, 765, 766, 767, 768] (by decide +kernel) (by decide +kernel)
set_option maxRecDepth 20000 in
theorem gL_law_X3_init : GoodIn wsL_law (wsX3_init) := ggL_law_X3_init
set_option maxRecDepth 20000 in
theorem ggL_law_X4_init : GoodIn wsL_law wsX4_init := goodIn_r _ [51, 52, 10, 11, 32, 53, 54, 55, 56, 57, 58, 59, 60, 61, 62, 63, 64, 65, 66, 67, 68, 724, 725, 726, 727, 728, 729, 730, 731, 732, 733, 734, 735, 736, 737, 738, 739, 740, 741, 742, 743, 744, 745, 746, 747, 748, 749, 750, 751, 752, 753] (by decide +kernel) (by decide +kernel)
set_option maxRecDepth 20000 in
theorem gL_law_X4_init : GoodIn wsL_law (wsX4_init) := ggL_law_X4_init
set_option maxRecDepth 20000 in
theorem ggL_law_X3_letter : GoodIn wsL_law wsX3_letter := goodIn_r _ [72, 15, 73, 74, 75, 76, 14, 77, 78, 33, 716, 717, 718, 719, 720, 721, 722, 723, 754, 755] (by decide +kernel) (by decide +kernel)
set_option maxRecDepth 20000 in
theorem gL_law_X3_letter : GoodIn wsL_law (wsV RL 13 RX3 yX3_letter wsX3_letter) := goodIn_app (goodIn_of _ (by decide +kernel)) ggL_law_X3_letter
set_option maxRecDepth 20000 in
theorem ggL_law_X4_letter : GoodIn wsL_law wsX4_letter := goodIn_r _ [82, 83, 61, 84, 85, 5, 86, 724, 725, 726, 727, 728, 729, 730, 731, 732, 733, 734, 735, 736, 737, 738, 739, 740, 741, 742, 743, 744, 745, 746, 747, 748, 749, 750, 751, 752, 753] (by decide +kernel) (by decide +kernel)
set_option maxRecDepth 20000 in
theorem gL_law_X4_letter : GoodIn wsL_law (wsV RL 17 RX4 yX4_letter wsX4_letter) := goodIn_app (goodIn_of _ (by decide +kernel)) ggL_law_X4_letter
set_option maxRecDepth 20000 in
theorem ggL_law_X3_blank : GoodIn wsL_law wsX3_blank := goodIn_r _ [90, 15, 91, 92, 93, 14, 94, 78, 716, 717, 718, 719, 720, 721, 722, 723, 754, 755] (by decide +kernel) (by decide +kernel)
set_option maxRecDepth 20000 in
theorem gL_law_X3_blank : GoodIn wsL_law (wsV RL 18 RX3 yX3_blank wsX3_blank) := goodIn_app (goodIn_of _ (by decide +kernel)) ggL_law_X3_blank
set_option maxRecDepth 20000 in
theorem ggL_law_X4_blank : GoodIn wsL_law wsX4_blank := goodIn_r _ [98, 83, 724, 725, 726, 727, 728, 729, 730, 731, 732, 733, 734, 735, 736, 737, 738, 739, 740, 741, 742, 743, 744, 745, 746, 747, 748, 749, 750, 751, 752, 753] (by decide +kernel) (by decide +kernel)
set_option maxRecDepth 20000 in
theorem gL_law_X4_blank : GoodIn wsL_law (wsV RL 22 RX4 yX4_blank wsX4_blank) := goodIn_app (goodIn_of _ (by decide +kernel)) ggL_law_X4_blank
set_option maxRecDepth 20000 in
theorem ggL_law_X3_fault : GoodIn wsL_law wsX3_fault := goodIn_r _ [102, 15, 103, 104, 105, 14, 106, 78, 33, 107, 108, 109, 716, 717, 718, 719, 720, 721, 722, 723, 754, 755] (by decide +kernel) (by decide +kernel)
set_option maxRecDepth 20000 in
theorem gL_law_X3_fault : GoodIn wsL_law (wsV RL 23 RX3 yX3_fault wsX3_fault) := goodIn_app (goodIn_of _ (by decide +kernel)) ggL_law_X3_fault
set_option maxRecDepth 20000 in
theorem ggL_law_X4_fault : GoodIn wsL_law wsX4_fault := goodIn_r _ [113, 114, 115, 116, 5, 117, 118, 119, 83, 61, 120, 121, 122, 123, 84, 85, 86, 724, 725, 726, 727, 728, 729, 730, 731, 732, 733, 734, 735, 736, 737, 738, 739, 740, 741, 742, 743, 744, 745, 746, 747, 748, 749, 750, 751, 752, 753] (by decide +kernel) (by decide +kernel)
set_option maxRecDepth 20000 in
theorem gL_law_X4_fault : GoodIn wsL_law (wsV RL 26 RX4 yX4_fault wsX4_fault) := goodIn_app (goodIn_of _ (by decide +kernel)) ggL_law_X4_fault
set_option maxRecDepth 20000 in
theorem ggL_law_X3_cellar : GoodIn wsL_law wsX3_cellar := goodIn_r _ [127, 15, 19, 27, 28, 128, 129, 130, 14, 131, 78, 132, 104, 105, 106, 33, 107, 108, 109, 133, 134, 135, 18, 136, 137, 138, 139, 140, 141, 142, 39, 143, 144, 145, 146, 147, 148, 149, 150, 24, 151, 48, 152, 153, 154, 155, 156, 157, 158, 159, 160, 161, 162, 91, 92, 93, 94, 716, 717, 718, 719, 720, 721, 722, 723, 754, 755, 756, 757, 758, 759, 760, 761, 762, 763, 764, 765, 766, 767, 768] (by decide +kernel) (by decide +kernel)
set_option maxRecDepth 20000 in
theorem gL_law_X3_cellar : GoodIn wsL_law (wsV RL 27 RX3 yX3_cellar wsX3_cellar) := goodIn_app (goodIn_of _ (by decide +kernel)) ggL_law_X3_cellar
set_option maxRecDepth 20000 in
theorem ggL_law_X4_cellar : GoodIn wsL_law wsX4_cellar := goodIn_r _ [166, 118, 53, 61, 167, 119, 168, 169, 170, 171, 83, 114, 115, 116, 5, 117, 120, 121, 122, 123, 84, 85, 86, 724, 725, 726, 727, 728, 729, 730, 731, 732, 733, 734, 735, 736, 737, 738, 739, 740, 741, 742, 743, 744, 745, 746, 747, 748, 749, 750, 751, 752, 753] (by decide +kernel) (by decide +kernel)
set_option maxRecDepth 20000 in
theorem gL_law_X4_cellar : GoodIn wsL_law (wsV RL 30 RX4 yX4_cellar wsX4_cellar) := goodIn_app (goodIn_of _ (by decide +kernel)) ggL_law_X4_cellar
set_option maxRecDepth 20000 in
theorem ggL_law_X3_cask : GoodIn wsL_law wsX3_cask := goodIn_r _ [175, 19, 176, 177, 178, 179, 180, 181, 182, 18, 183, 142, 184, 185, 186, 24, 187, 152, 188, 189, 190, 191, 48, 192, 193, 194, 195, 196, 197, 198, 199, 200, 201, 202, 203, 204, 205, 206, 207, 137, 143, 40, 41, 208, 209, 210, 211, 212, 213, 214, 215, 216, 217, 218, 219, 220, 2, 221, 222, 716, 717, 718, 719, 720, 721, 722, 723, 756, 757, 758, 759, 760, 761, 762, 763, 764, 765, 766, 767, 768] (by decide +kernel) (by decide +kernel)
set_option maxRecDepth 20000 in
theorem gL_law_X3_cask : GoodIn wsL_law (wsV RL 31 RX3 yX3_cask wsX3_cask) := goodIn_app (goodIn_of _ (by decide +kernel)) ggL_law_X3_cask
set_option maxRecDepth 20000 in
theorem ggL_law_X4_cask : GoodIn wsL_law wsX4_cask := goodIn_r _ [226, 227, 228, 229, 5, 230, 168, 84, 85, 86, 231, 232, 233, 234, 54, 235, 236, 237, 238, 239, 240, 241, 242, 243, 244, 245, 246, 53, 247, 248, 249, 250, 251, 252, 253, 254, 167, 255, 256, 257, 258, 259, 260, 261, 262, 170, 55, 56, 263, 264, 265, 266, 267, 268, 269, 270, 271, 272, 273, 724, 725, 726, 727, 728, 729, 730, 731, 732, 733, 734, 735, 736, 737, 738, 739, 740, 741, 742, 743, 744, 745, 746, 747, 748, 749, 750, 751, 752, 753] (by decide +kernel) (by decide +kernel)
set_option maxRecDepth 20000 in
theorem gL_law_X4_cask : GoodIn wsL_law (wsV RL 35 RX4 yX4_cask wsX4_cask) := goodIn_app (goodIn_of _ (by decide +kernel)) ggL_law_X4_cask
set_option maxRecDepth 20000 in
theorem ggL_law_X3_person : GoodIn wsL_law wsX3_person := goodIn_r _ [277, 19, 278, 279, 280, 2, 281, 282, 283, 284, 18, 285, 142, 286, 287, 288, 289, 143, 40, 41, 42, 716, 717, 718, 719, 720, 721, 722, 723, 756, 757, 758, 759, 760, 761, 762, 763, 764, 765, 766] (by decide +kernel) (by decide +kernel)
set_option maxRecDepth 20000 in
theorem gL_law_X3_person : GoodIn wsL_law (wsV RL 36 RX3 yX3_person wsX3_person) := goodIn_app (goodIn_of _ (by decide +kernel)) ggL_law_X3_person
set_option maxRecDepth 20000 in
theorem ggL_law_X4_person : GoodIn wsL_law wsX4_person := goodIn_r _ [293, 168, 170, 55, 56, 57, 84, 85, 5, 86, 724, 725, 726, 727, 728, 729, 730, 731, 732, 733, 734, 735, 736, 737, 738, 739, 740, 741, 742, 743, 744, 745, 746, 747, 748, 749, 750, 751, 752, 753] (by decide +kernel) (by decide +kernel)
set_option maxRecDepth 20000 in
theorem gL_law_X4_person : GoodIn wsL_law (wsV RL 39 RX4 yX4_person wsX4_person) := goodIn_app (goodIn_of _ (by decide +kernel)) ggL_law_X4_person
set_option maxRecDepth 20000 in
theorem ggL_law_X3_about : GoodIn wsL_law wsX3_about := goodIn_r _ [297, 19, 298, 299, 300, 301, 302, 303, 18, 304, 143, 305, 306, 307, 308, 142, 39, 309, 310, 311, 312, 313, 205, 206, 207, 137, 40, 41, 208, 185, 186, 24, 187, 152, 188, 189, 190, 191, 48, 192, 193, 194, 195, 196, 197, 198, 199, 200, 201, 202, 203, 209, 210, 211, 212, 213, 214, 215, 216, 217, 218, 219, 220, 2, 221, 716, 717, 718, 719, 720, 721, 722, 723, 756, 757, 758, 759, 760, 761, 762, 763, 764, 765, 766, 767, 768] (by decide +kernel) (by decide +kernel)
set_option maxRecDepth 20000 in
theorem gL_law_X3_about : GoodIn wsL_law (wsV RL 40 RX3 yX3_about wsX3_about) := goodIn_app (goodIn_of _ (by decide +kernel)) ggL_law_X3_about
set_option maxRecDepth 20000 in
theorem ggL_law_X4_about : GoodIn wsL_law wsX4_about := goodIn_r _ [317, 318, 319, 320, 5, 321, 170, 84, 85, 86, 322, 323, 324, 325, 55, 56, 57, 326, 327, 328, 329, 168, 235, 236, 237, 238, 239, 240, 241, 242, 54, 243, 244, 245, 246, 53, 263, 264, 265, 266, 251, 252, 253, 254, 167, 247, 248, 249, 250, 255, 256, 257, 258, 267, 268, 269, 270, 271, 272, 273, 724, 725, 726, 727, 728, 729, 730, 731, 732, 733, 734, 735, 736, 737, 738, 739, 740, 741, 742, 743, 744, 745, 746, 747, 748, 749, 750, 751, 752, 753] (by decide +kernel) (by decide +kernel)
set_option maxRecDepth 20000 in
theorem gL_law_X4_about : GoodIn wsL_law (wsV RL 43 RX4 yX4_about wsX4_about) := goodIn_app (goodIn_of _ (by decide +kernel)) ggL_law_X4_about
set_option maxRecDepth 20000 in
theorem ggL_law_X3_as : GoodIn wsL_law wsX3_as := goodIn_r _ [333, 19, 298, 301, 302, 303, 18, 304, 143, 279, 280, 2, 281, 334, 335, 336, 716, 717, 718, 719, 720, 721, 722, 723, 756, 757, 758, 759, 760, 761, 762, 763, 764, 765, 766] (by decide +kernel) (by decide +kernel)
set_option maxRecDepth 20000 in
theorem gL_law_X3_as : GoodIn wsL_law (wsV RL 44 RX3 yX3_as wsX3_as) := goodIn_app (goodIn_of _ (by decide +kernel)) ggL_law_X3_as
set_option maxRecDepth 20000 in
theorem ggL_law_X4_as : GoodIn wsL_law wsX4_as := goodIn_r _ [340, 55, 318, 319, 320, 5, 321, 170, 84, 85, 86, 724, 725, 726, 727, 728, 729, 730, 731, 732, 733, 734, 735, 736, 737, 738, 739, 740, 741, 742, 743, 744, 745, 746, 747, 748, 749, 750, 751, 752, 753] (by decide +kernel) (by decide +kernel)
set_option maxRecDepth 20000 in
theorem gL_law_X4_as : GoodIn wsL_law (wsV RL 47 RX4 yX4_as wsX4_as) := goodIn_app (goodIn_of _ (by decide +kernel)) ggL_law_X4_as
set_option maxRecDepth 20000 in
theorem ggL_law_X3_drink : GoodIn wsL_law wsX3_drink := goodIn_r _ [344, 19, 176, 178, 301, 302, 303, 18, 304, 143, 180, 181, 182, 183, 142, 345, 346, 347, 348, 39, 349, 42, 350, 351, 309, 310, 311, 312, 313, 205, 206, 207, 137, 40, 41, 208, 185, 186, 24, 187, 152, 188, 189, 190, 191, 48, 192, 193, 194, 195, 196, 197, 198, 199, 200, 201, 202, 203, 209, 210, 211, 212, 213, 214, 215, 216, 217, 218, 219, 220, 2, 221, 352, 353, 354, 355, 356, 154, 155, 156, 716, 717, 718, 719, 720, 721, 722, 723, 756, 757, 758, 759, 760, 761, 762, 763, 764, 765, 766, 767, 768] (by decide +kernel) (by decide +kernel)
set_option maxRecDepth 20000 in
theorem gL_law_X3_drink : GoodIn wsL_law (wsV RL 48 RX3 yX3_drink wsX3_drink) := goodIn_app (goodIn_of _ (by decide +kernel)) ggL_law_X3_drink
set_option maxRecDepth 20000 in
theorem ggL_law_X4_drink : GoodIn wsL_law wsX4_drink := goodIn_r _ [360, 55, 56, 53, 57, 318, 319, 320, 5, 321, 170, 84, 85, 86, 227, 228, 229, 230, 168, 361, 362, 363, 364, 235, 236, 237, 238, 239, 240, 241, 242, 54, 243, 244, 245, 246, 255, 256, 257, 258, 263, 264, 265, 266, 251, 252, 253, 254, 167, 247, 248, 249, 250, 267, 268, 269, 270, 271, 272, 273, 724, 725, 726, 727, 728, 729, 730, 731, 732, 733, 734, 735, 736, 737, 738, 739, 740, 741, 742, 743, 744, 745, 746, 747, 748, 749, 750, 751, 752, 753] (by decide +kernel) (by decide +kernel)
set_option maxRecDepth 20000 in
theorem gL_law_X4_drink : GoodIn wsL_law (wsV RL 51 RX4 yX4_drink wsX4_drink) := goodIn_app (goodIn_of _ (by decide +kernel)) ggL_law_X4_drink
set_option maxRecDepth 20000 in
theorem ggL_law_X3_pour : GoodIn wsL_law wsX3_pour := goodIn_r _ [368, 19, 176, 178, 180, 181, 182, 18, 183, 142, 369, 370, 371, 24, 372, 152, 373, 353, 354, 355, 188, 189, 190, 191, 48, 356, 154, 155, 156, 374, 716, 717, 718, 719, 720, 721, 722, 723, 756, 757, 758, 759, 760, 761, 762, 763, 764, 765, 766, 767, 768] (by decide +kernel) (by decide +kernel)
set_option maxRecDepth 20000 in
theorem gL_law_X3_pour : GoodIn wsL_law (wsV RL 52 RX3 yX3_pour wsX3_pour) := goodIn_app (goodIn_of _ (by decide +kernel)) ggL_law_X3_pour
set_option maxRecDepth 20000 in
theorem ggL_law_X4_pour : GoodIn wsL_law wsX4_pour := goodIn_r _ [378, 227, 228, 229, 5, 230, 168, 84, 85, 86, 379, 380, 381, 382, 235, 236, 237, 238, 239, 240, 241, 242, 54, 243, 244, 245, 246, 53, 247, 248, 249, 250, 383, 384, 385, 386, 361, 362, 363, 364, 255, 256, 257, 258, 724, 725, 726, 727, 728, 729, 730, 731, 732, 733, 734, 735, 736, 737, 738, 739, 740, 741, 742, 743, 744, 745, 746, 747, 748, 749, 750, 751, 752, 753] (by decide +kernel) (by decide +kernel)
set_option maxRecDepth 20000 in
theorem gL_law_X4_pour : GoodIn wsL_law (wsV RL 56 RX4 yX4_pour wsX4_pour) := goodIn_app (goodIn_of _ (by decide +kernel)) ggL_law_X4_pour
set_option maxRecDepth 20000 in
theorem ggL_law_X3_table : GoodIn wsL_law wsX3_table := goodIn_r _ [390, 19, 391, 392, 393, 18, 394, 395, 396, 397, 398, 143, 282, 283, 284, 285, 142, 399, 400, 401, 402, 44, 39, 138, 139, 140, 141, 313, 205, 206, 207, 137, 40, 41, 208, 185, 186, 24, 187, 152, 188, 189, 190, 191, 48, 192, 193, 194, 195, 196, 197, 198, 199, 200, 201, 202, 203, 209, 210, 211, 212, 213, 214, 215, 216, 217, 218, 219, 220, 2, 221, 403, 404, 405, 406, 349, 716, 717, 718, 719, 720, 721, 722, 723, 756, 757, 758, 759, 760, 761, 762, 763, 764, 765, 766, 767, 768] (by decide +kernel) (by decide +kernel)
set_option maxRecDepth 20000 in
theorem gL_law_X3_table : GoodIn wsL_law (wsV RL 57 RX3 yX3_table wsX3_table) := goodIn_app (goodIn_of _ (by decide +kernel)) ggL_law_X3_table
set_option maxRecDepth 20000 in
theorem ggL_law_X4_table : GoodIn wsL_law wsX4_table := goodIn_r _ [410, 168, 411, 412, 413, 5, 414, 170, 84, 85, 86, 415, 416, 417, 418, 62, 326, 327, 328, 329, 55, 56, 235, 236, 237, 238, 239, 240, 241, 242, 54, 243, 244, 245, 246, 53, 263, 264, 265, 266, 251, 252, 253, 254, 167, 247, 248, 249, 250, 255, 256, 257, 258, 267, 268, 269, 270, 271, 272, 273, 419, 420, 421, 422, 63, 379, 380, 381, 382, 423, 424, 425, 724, 725, 726, 727, 728, 729, 730, 731, 732, 733, 734, 735, 736, 737, 738, 739, 740, 741, 742, 743, 744, 745, 746, 747, 748, 749, 750, 751, 752, 753] (by decide +kernel) (by decide +kernel)
set_option maxRecDepth 20000 in
theorem gL_law_X4_table : GoodIn wsL_law (wsV RL 60 RX4 yX4_table wsX4_table) := goodIn_app (goodIn_of _ (by decide +kernel)) ggL_law_X4_table
set_option maxRecDepth 20000 in
theorem ggL_law_X3_blend : GoodIn wsL_law wsX3_blend := goodIn_r _ [429, 19, 391, 392, 393, 18, 394, 395, 396, 397, 398, 143, 430, 431, 2, 432, 282, 283, 284, 285, 142, 433, 434, 435, 436, 437, 25, 178, 438, 214, 215, 216, 217, 218, 219, 439, 440, 441, 442, 176, 443, 149, 150, 24, 151, 48, 152, 444, 445, 446, 447, 356, 154, 155, 156, 448, 310, 311, 312, 313, 205, 206, 207, 137, 40, 41, 208, 185, 186, 187, 188, 189, 190, 191, 192, 193, 194, 195, 196, 197, 198, 199, 200, 201, 202, 203, 209, 210, 211, 212, 213, 220, 221, 449, 450, 451, 716, 717, 718, 719, 720, 721, 722, 723, 756, 757, 758, 759, 760, 761, 762, 763, 764, 765, 766, 767, 768] (by decide +kernel) (by decide +kernel)
set_option maxRecDepth 20000 in
theorem gL_law_X3_blend : GoodIn wsL_law (wsV RL 61 RX3 yX3_blend wsX3_blend) := goodIn_app (goodIn_of _ (by decide +kernel)) ggL_law_X3_blend
set_option maxRecDepth 20000 in
theorem ggL_law_X4_blend : GoodIn wsL_law wsX4_blend := goodIn_r _ [455, 168, 411, 412, 413, 5, 414, 170, 84, 85, 86, 456, 457, 458, 459, 271, 272, 273, 460, 461, 462, 463, 239, 240, 241, 242, 54, 423, 424, 425, 247, 248, 249, 250, 243, 244, 245, 246, 53, 259, 260, 261, 262, 55, 56, 263, 264, 265, 266, 251, 252, 253, 254, 167, 255, 256, 257, 258, 267, 268, 269, 270, 724, 725, 726, 727, 728, 729, 730, 731, 732, 733, 734, 735, 736, 737, 738, 739, 740, 741, 742, 743, 744, 745, 746, 747, 748, 749, 750, 751, 752, 753] (by decide +kernel) (by decide +kernel)
set_option maxRecDepth 20000 in
theorem gL_law_X4_blend : GoodIn wsL_law (wsV RL 64 RX4 yX4_blend wsX4_blend) := goodIn_app (goodIn_of _ (by decide +kernel)) ggL_law_X4_blend
set_option maxRecDepth 20000 in
theorem ggL_law_X3_top : GoodIn wsL_law wsX3_top := goodIn_r _ [467, 19, 176, 437, 180, 181, 182, 18, 183, 142, 391, 392, 393, 394, 395, 396, 397, 398, 143, 430, 431, 2, 432, 448, 310, 311, 312, 313, 205, 206, 207, 137, 40, 41, 208, 185, 186, 24, 187, 152, 188, 189, 190, 191, 48, 192, 193, 194, 195, 196, 197, 198, 199, 200, 201, 202, 203, 209, 210, 211, 212, 213, 214, 215, 216, 217, 218, 219, 220, 221, 468, 469, 470, 471, 25, 26, 178, 472, 139, 140, 141, 473, 474, 475, 476, 477, 149, 150, 151, 478, 445, 446, 447, 356, 154, 155, 156, 369, 370, 371, 372, 373, 353, 354, 355, 374, 716, 717, 718, 719, 720, 721, 722, 723, 756, 757, 758, 759, 760, 761, 762, 763, 764, 765, 766, 767, 768] (by decide +kernel) (by decide +kernel)
set_option maxRecDepth 20000 in
theorem gL_law_X3_top : GoodIn wsL_law (wsV RL 65 RX3 yX3_top wsX3_top) := goodIn_app (goodIn_of _ (by decide +kernel)) ggL_law_X3_top
set_option maxRecDepth 20000 in
theorem ggL_law_X4_top : GoodIn wsL_law wsX4_top := goodIn_r _ [482, 227, 228, 229, 5, 230, 168, 84, 85, 86, 411, 412, 413, 414, 170, 483, 484, 485, 486, 235, 236, 237, 238, 239, 240, 241, 242, 54, 243, 244, 245, 246, 53, 259, 260, 261, 262, 55, 56, 263, 264, 265, 266, 251, 252, 253, 254, 167, 247, 248, 249, 250, 255, 256, 257, 258, 267, 268, 269, 270, 271, 272, 273, 379, 380, 381, 382, 487, 488, 489, 490, 491, 492, 493, 494, 724, 725, 726, 727, 728, 729, 730, 731, 732, 733, 734, 735, 736, 737, 738, 739, 740, 741, 742, 743, 744, 745, 746, 747, 748, 749, 750, 751, 752, 753] (by decide +kernel) (by decide +kernel)
set_option maxRecDepth 20000 in
theorem gL_law_X4_top : GoodIn wsL_law (wsV RL 68 RX4 yX4_top wsX4_top) := goodIn_app (goodIn_of _ (by decide +kernel)) ggL_law_X4_top
set_option maxRecDepth 20000 in
theorem ggL_law_X3_trial : GoodIn wsL_law wsX3_trial := goodIn_r _ [498, 19, 499, 180, 181, 182, 18, 183, 142, 500, 501, 502, 503, 161, 43, 162, 716, 717, 718, 719, 720, 721, 722, 723, 756, 757, 758, 759, 760, 761, 762, 763, 764, 765, 766] (by decide +kernel) (by decide +kernel)
set_option maxRecDepth 20000 in
theorem gL_law_X3_trial : GoodIn wsL_law (wsV RL 69 RX3 yX3_trial wsX3_trial) := goodIn_app (goodIn_of _ (by decide +kernel)) ggL_law_X3_trial
set_option maxRecDepth 20000 in
theorem ggL_law_X4_trial : GoodIn wsL_law wsX4_trial := goodIn_r _ [507, 171, 58, 59, 227, 228, 229, 5, 230, 168, 84, 85, 86, 724, 725, 726, 727, 728, 729, 730, 731, 732, 733, 734, 735, 736, 737, 738, 739, 740, 741, 742, 743, 744, 745, 746, 747, 748, 749, 750, 751, 752, 753] (by decide +kernel) (by decide +kernel)
set_option maxRecDepth 20000 in
theorem gL_law_X4_trial : GoodIn wsL_law (wsV RL 73 RX4 yX4_trial wsX4_trial) := goodIn_app (goodIn_of _ (by decide +kernel)) ggL_law_X4_trial
set_option maxRecDepth 20000 in
theorem ggL_law_X3_forget : GoodIn wsL_law wsX3_forget := goodIn_r _ [511, 19, 512, 158, 159, 18, 160, 161, 162, 716, 717, 718, 719, 720, 721, 722, 723, 756, 757, 758, 759, 760, 761, 762, 763, 764, 765, 766] (by decide +kernel) (by decide +kernel)
set_option maxRecDepth 20000 in
theorem gL_law_X3_forget : GoodIn wsL_law (wsV RL 74 RX3 yX3_forget wsX3_forget) := goodIn_app (goodIn_of _ (by decide +kernel)) ggL_law_X3_forget
set_option maxRecDepth 20000 in
theorem ggL_law_X4_forget : GoodIn wsL_law wsX4_forget := goodIn_r _ [516, 171, 724, 725, 726, 727, 728, 729, 730, 731, 732, 733, 734, 735, 736, 737, 738, 739, 740, 741, 742, 743, 744, 745, 746, 747, 748, 749, 750, 751, 752, 753] (by decide +kernel) (by decide +kernel)
set_option maxRecDepth 20000 in
theorem gL_law_X4_forget : GoodIn wsL_law (wsV RL 77 RX4 yX4_forget wsX4_forget) := goodIn_app (goodIn_of _ (by decide +kernel)) ggL_law_X4_forget
set_option maxRecDepth 20000 in
theorem ggL_law_X3_births : GoodIn wsL_law wsX3_births := goodIn_r _ [520, 19, 279, 280, 2, 281, 282, 283, 284, 18, 285, 142, 521, 522, 523, 524, 161, 43, 39, 162, 351, 181, 182, 183, 525, 526, 527, 528, 137, 208, 185, 186, 24, 187, 152, 188, 189, 190, 191, 48, 192, 193, 194, 195, 196, 197, 198, 199, 200, 201, 202, 203, 209, 210, 211, 212, 213, 214, 215, 216, 217, 218, 219, 220, 221, 716, 717, 718, 719, 720, 721, 722, 723, 756, 757, 758, 759, 760, 761, 762, 763, 764, 765, 766, 767, 768] (by decide +kernel) (by decide +kernel)
set_option maxRecDepth 20000 in
theorem gL_law_X3_births : GoodIn wsL_law (wsV RL 78 RX3 yX3_births wsX3_births) := goodIn_app (goodIn_of _ (by decide +kernel)) ggL_law_X3_births
set_option maxRecDepth 20000 in
theorem ggL_law_X4_births : GoodIn wsL_law wsX4_births := goodIn_r _ [532, 168, 84, 85, 5, 86, 533, 534, 535, 536, 537, 538, 539, 540, 171, 58, 59, 235, 236, 237, 238, 239, 240, 241, 242, 54, 243, 244, 245, 246, 53, 263, 264, 265, 266, 251, 252, 253, 254, 167, 247, 248, 249, 250, 255, 256, 257, 258, 267, 268, 269, 270, 271, 272, 273, 724, 725, 726, 727, 728, 729, 730, 731, 732, 733, 734, 735, 736, 737, 738, 739, 740, 741, 742, 743, 744, 745, 746, 747, 748, 749, 750, 751, 752, 753] (by decide +kernel) (by decide +kernel)
set_option maxRecDepth 20000 in
theorem gL_law_X4_births : GoodIn wsL_law (wsV RL 81 RX4 yX4_births wsX4_births) := goodIn_app (goodIn_of _ (by decide +kernel)) ggL_law_X4_births
set_option maxRecDepth 20000 in
theorem ggL_law_X3_ask : GoodIn wsL_law wsX3_ask := goodIn_r _ [544, 19, 279, 280, 2, 281, 282, 283, 284, 18, 285, 142, 545, 546, 547, 548, 39, 349, 549, 522, 523, 524, 161, 43, 162, 351, 181, 182, 183, 525, 526, 527, 528, 137, 208, 185, 186, 24, 187, 152, 188, 189, 190, 191, 48, 192, 193, 194, 195, 196, 197, 198, 199, 200, 201, 202, 203, 209, 210, 211, 212, 213, 214, 215, 216, 217, 218, 219, 220, 221, 550, 551, 552, 553, 554, 140, 555, 716, 717, 718, 719, 720, 721, 722, 723, 756, 757, 758, 759, 760, 761, 762, 763, 764, 765, 766, 767, 768] (by decide +kernel) (by decide +kernel)
set_option maxRecDepth 20000 in
theorem gL_law_X3_ask : GoodIn wsL_law (wsV RL 82 RX3 yX3_ask wsX3_ask) := goodIn_app (goodIn_of _ (by decide +kernel)) ggL_law_X3_ask
set_option maxRecDepth 20000 in
theorem ggL_law_X4_ask : GoodIn wsL_law wsX4_ask := goodIn_r _ [559, 168, 84, 85, 5, 86, 560, 561, 562, 563, 564, 533, 534, 535, 536, 537, 538, 539, 540, 171, 58, 59, 235, 236, 237, 238, 239, 240, 241, 242, 54, 243, 244, 245, 246, 53, 263, 264, 265, 266, 251, 252, 253, 254, 167, 247, 248, 249, 250, 255, 256, 257, 258, 267, 268, 269, 270, 271, 272, 273, 423, 424, 425, 724, 725, 726, 727, 728, 729, 730, 731, 732, 733, 734, 735, 736, 737, 738, 739, 740, 741, 742, 743, 744, 745, 746, 747, 748, 749, 750, 751, 752, 753] (by decide +kernel) (by decide +kernel)
set_option maxRecDepth 20000 in
theorem gL_law_X4_ask : GoodIn wsL_law (wsV RL 85 RX4 yX4_ask wsX4_ask) := goodIn_app (goodIn_of _ (by decide +kernel)) ggL_law_X4_ask
set_option maxRecDepth 20000 in
theorem ggL_law_X3_topped : GoodIn wsL_law wsX3_topped := goodIn_r _ [568, 19, 437, 180, 181, 182, 18, 183, 142, 391, 392, 393, 394, 395, 396, 397, 398, 143, 430, 431, 2, 432, 569, 570, 571, 572, 176, 178, 369, 370, 371, 24, 372, 152, 573, 574, 575, 576, 25, 473, 474, 475, 476, 477, 149, 150, 151, 48, 478, 445, 446, 447, 356, 154, 155, 156, 373, 353, 354, 355, 188, 189, 190, 191, 577, 374, 204, 205, 206, 207, 137, 40, 41, 208, 185, 186, 187, 192, 193, 194, 195, 196, 197, 198, 199, 200, 201, 202, 203, 209, 210, 211, 212, 213, 214, 215, 216, 217, 218, 219, 220, 221, 716, 717, 718, 719, 720, 721, 722, 723, 756, 757, 758, 759, 760, 761, 762, 763, 764, 765, 766, 767, 768] (by decide +kernel) (by decide +kernel)
set_option maxRecDepth 20000 in
theorem gL_law_X3_topped : GoodIn wsL_law (wsV RL 86 RX3 yX3_topped wsX3_topped) := goodIn_app (goodIn_of _ (by decide +kernel)) ggL_law_X3_topped
set_option maxRecDepth 20000 in
theorem ggL_law_X4_topped : GoodIn wsL_law wsX4_topped := goodIn_r _ [581, 227, 228, 229, 5, 230, 168, 84, 85, 86, 411, 412, 413, 414, 170, 582, 583, 584, 585, 586, 379, 380, 381, 382, 235, 236, 237, 238, 239, 240, 241, 242, 54, 243, 244, 245, 246, 53, 247, 248, 249, 250, 361, 362, 363, 364, 255, 256, 257, 258, 587, 588, 589, 590, 383, 384, 385, 386, 259, 260, 261, 262, 55, 56, 263, 264, 265, 266, 251, 252, 253, 254, 167, 267, 268, 269, 270, 271, 272, 273, 724, 725, 726, 727, 728, 729, 730, 731, 732, 733, 734, 735, 736, 737, 738, 739, 740, 741, 742, 743, 744, 745, 746, 747, 748, 749, 750, 751, 752, 753] (by decide +kernel) (by decide +kernel)
set_option maxRecDepth 20000 in
theorem gL_law_X4_topped : GoodIn wsL_law (wsV RL 89 RX4 yX4_topped wsX4_topped) := goodIn_app (goodIn_of _ (by decide +kernel)) ggL_law_X4_topped
set_option maxRecDepth 20000 in
theorem ggL_law_X3_feasts : GoodIn wsL_law wsX3_feasts := goodIn_r _ [594, 19, 278, 21, 437, 595, 596, 597, 18, 598, 137, 142, 39, 143, 40, 599, 600, 601, 602, 41, 42, 161, 162, 43, 603, 474, 475, 24, 476, 477, 149, 150, 151, 48, 152, 478, 445, 446, 447, 356, 154, 155, 156, 604, 605, 2, 606, 607, 608, 609, 610, 611, 612, 613, 345, 346, 347, 348, 349, 350, 302, 303, 304, 351, 181, 182, 183, 309, 310, 311, 312, 313, 205, 206, 207, 208, 185, 186, 187, 188, 189, 190, 191, 192, 193, 194, 195, 196, 197, 198, 199, 200, 201, 202, 203, 209, 210, 211, 212, 213, 214, 215, 216, 217, 218, 219, 220, 221, 352, 353, 354, 355, 614, 615, 616, 617, 716, 717, 718, 719, 720, 721, 722, 723, 756, 757, 758, 759, 760, 761, 762, 763, 764, 765, 766, 767, 768] (by decide +kernel) (by decide +kernel)
set_option maxRecDepth 20000 in
theorem gL_law_X3_feasts : GoodIn wsL_law (wsV RL 90 RX3 yX3_feasts wsX3_feasts) := goodIn_app (goodIn_of _ (by decide +kernel)) ggL_law_X3_feasts
set_option maxRecDepth 20000 in
theorem ggL_law_X4_feasts : GoodIn wsL_law wsX4_feasts := goodIn_r _ [621, 170, 84, 85, 5, 86, 622, 623, 624, 625, 64, 53, 626, 168, 55, 56, 627, 628, 629, 630, 631, 632, 633, 634, 361, 362, 363, 364, 235, 236, 237, 238, 239, 240, 241, 242, 54, 243, 244, 245, 246, 255, 256, 257, 258, 263, 264, 265, 266, 251, 252, 253, 254, 167, 247, 248, 249, 250, 267, 268, 269, 270, 271, 272, 273, 635, 636, 637, 638, 379, 380, 381, 382, 724, 725, 726, 727, 728, 729, 730, 731, 732, 733, 734, 735, 736, 737, 738, 739, 740, 741, 742, 743, 744, 745, 746, 747, 748, 749, 750, 751, 752, 753] (by decide +kernel) (by decide +kernel)
set_option maxRecDepth 20000 in
theorem gL_law_X4_feasts : GoodIn wsL_law (wsV RL 93 RX4 yX4_feasts wsX4_feasts) := goodIn_app (goodIn_of _ (by decide +kernel)) ggL_law_X4_feasts
set_option maxRecDepth 20000 in
theorem ggL_law_X3_image : GoodIn wsL_law wsX3_image := goodIn_r _ [642, 19, 20, 27, 282, 283, 284, 18, 285, 142, 595, 596, 597, 598, 137, 39, 143, 40, 599, 600, 601, 602, 41, 42, 161, 162, 43, 603, 474, 475, 24, 476, 477, 149, 150, 151, 48, 152, 478, 445, 446, 447, 356, 154, 155, 156, 614, 615, 616, 617, 349, 716, 717, 718, 719, 720, 721, 722, 723, 756, 757, 758, 759, 760, 761, 762, 763, 764, 765, 766, 767, 768] (by decide +kernel) (by decide +kernel)
set_option maxRecDepth 20000 in
theorem gL_law_X3_image : GoodIn wsL_law (wsV RL 94 RX3 yX3_image wsX3_image) := goodIn_app (goodIn_of _ (by decide +kernel)) ggL_law_X3_image
set_option maxRecDepth 20000 in
theorem ggL_law_X4_image : GoodIn wsL_law wsX4_image := goodIn_r _ [646, 168, 647, 169, 648, 170, 649, 171, 650, 65, 53, 66, 57, 67, 58, 68, 59, 635, 636, 637, 5, 638, 379, 380, 381, 382, 235, 236, 237, 238, 239, 240, 241, 242, 54, 243, 244, 245, 246, 247, 248, 249, 250, 724, 725, 726, 727, 728, 729, 730, 731, 732, 733, 734, 735, 736, 737, 738, 739, 740, 741, 742, 743, 744, 745, 746, 747, 748, 749, 750, 751, 752, 753] (by decide +kernel) (by decide +kernel)
set_option maxRecDepth 20000 in
theorem gL_law_X4_image : GoodIn wsL_law (wsV RL 97 RX4 yX4_image wsX4_image) := goodIn_app (goodIn_of _ (by decide +kernel)) ggL_law_X4_image
set_option maxRecDepth 20000 in
theorem ggL_law_X3_restore : GoodIn wsL_law wsX3_restore := goodIn_r _ [654, 27, 19, 20, 595, 596, 597, 18, 598, 137, 142, 39, 143, 40, 599, 600, 601, 602, 41, 42, 161, 162, 43, 603, 474, 475, 24, 476, 477, 149, 150, 151, 48, 152, 478, 445, 446, 447, 356, 154, 155, 156, 614, 615, 616, 617, 349, 716, 717, 718, 719, 720, 721, 722, 723, 756, 757, 758, 759, 760, 761, 762, 763, 764, 765, 766, 767, 768] (by decide +kernel) (by decide +kernel)
set_option maxRecDepth 20000 in
theorem gL_law_X3_restore : GoodIn wsL_law (wsV RL 98 RX3 yX3_restore wsX3_restore) := goodIn_app (goodIn_of _ (by decide +kernel)) ggL_law_X3_restore
set_option maxRecDepth 20000 in
theorem ggL_law_X4_restore : GoodIn wsL_law wsX4_restore := goodIn_r _ [658, 647, 648, 169, 649, 170, 650, 171, 53, 65, 57, 66, 58, 67, 59, 68, 635, 636, 637, 5, 638, 168, 379, 380, 381, 382, 235, 236, 237, 238, 239, 240, 241, 242, 54, 243, 244, 245, 246, 247, 248, 249, 250, 724, 725, 726, 727, 728, 729, 730, 731, 732, 733, 734, 735, 736, 737, 738, 739, 740, 741, 742, 743, 744, 745, 746, 747, 748, 749, 750, 751, 752, 753] (by decide +kernel) (by decide +kernel)
set_option maxRecDepth 20000 in
theorem gL_law_X4_restore : GoodIn wsL_law (wsV RL 101 RX4 yX4_restore wsX4_restore) := goodIn_app (goodIn_of _ (by decide +kernel)) ggL_law_X4_restore
set_option maxRecDepth 20000 in
theorem ggL_law_X3_count : GoodIn wsL_law wsX3_count := goodIn_r _ [662, 19, 179, 437, 278, 499, 15, 73, 28, 614, 615, 616, 18, 617, 142, 39, 349, 663, 664, 665, 666, 143, 42, 716, 717, 718, 719, 720, 721, 722, 723, 756, 757, 758, 759, 760, 761, 762, 763, 764, 765, 766, 754, 755, 767, 768] (by decide +kernel) (by decide +kernel)
set_option maxRecDepth 20000 in
theorem gL_law_X3_count : GoodIn wsL_law (wsV RL 102 RX3 yX3_count wsX3_count) := goodIn_app (goodIn_of _ (by decide +kernel)) ggL_law_X3_count
set_option maxRecDepth 20000 in
theorem ggL_law_X4_count : GoodIn wsL_law wsX4_count := goodIn_r _ [670, 671, 672, 673, 5, 674, 167, 168, 170, 171, 83, 169, 635, 636, 637, 638, 379, 380, 381, 382, 235, 236, 237, 238, 239, 240, 241, 242, 54, 243, 244, 245, 246, 53, 247, 248, 249, 250, 675, 676, 677, 678, 57, 724, 725, 726, 727, 728, 729, 730, 731, 732, 733, 734, 735, 736, 737, 738, 739, 740, 741, 742, 743, 744, 745, 746, 747, 748, 749, 750, 751, 752, 753] (by decide +kernel) (by decide +kernel)
set_option maxRecDepth 20000 in
theorem gL_law_X4_count : GoodIn wsL_law (wsV RL 105 RX4 yX4_count wsX4_count) := goodIn_app (goodIn_of _ (by decide +kernel)) ggL_law_X4_count
set_option maxRecDepth 20000 in
theorem ggL_law_X3_digest : GoodIn wsL_law wsX3_digest := goodIn_r _ [682, 683, 19, 437, 278, 15, 73, 684, 685, 686, 687, 2, 688, 689, 173, 174, 175, 176, 177, 178, 179, 180, 181, 182, 18, 183, 142, 184, 185, 186, 24, 187, 152, 188, 189, 190, 191, 48, 192, 193, 194, 195, 196, 197, 198, 199, 200, 201, 202, 203, 204, 205, 206, 207, 137, 143, 40, 41, 208, 209, 210, 211, 212, 213, 214, 215, 216, 217, 218, 219, 220, 221, 222, 690, 691, 692, 693, 694, 295, 296, 297, 298, 299, 300, 301, 302, 303, 304, 305, 306, 307, 308, 39, 309, 310, 311, 312, 313, 282, 283, 284, 285, 695, 696, 697, 698, 699, 396, 397, 398, 433, 434, 435, 436, 25, 438, 439, 440, 441, 442, 443, 149, 150, 151, 444, 445, 446, 447, 356, 154, 155, 156, 448, 399, 400, 401, 402, 44, 138, 139, 140, 141, 403, 404, 405, 406, 349, 449, 450, 451, 521, 522, 523, 524, 161, 43, 162, 351, 525, 526, 527, 528, 545, 546, 547, 548, 549, 550, 551, 552, 553, 554, 555, 700, 660, 661, 662, 499, 28, 614, 615, 616, 617, 663, 664, 665, 666, 42, 716, 717, 718, 719, 720, 721, 722, 723, 756, 757, 758, 759, 760, 761, 762, 763, 764, 765, 766, 754, 755, 767, 768] (by decide +kernel) (by decide +kernel)
set_option maxRecDepth 20000 in
theorem gL_law_X3_digest : GoodIn wsL_law (wsV RL 106 RX3 yX3_digest wsX3_digest) := goodIn_app (goodIn_of _ (by decide +kernel)) ggL_law_X3_digest
set_option maxRecDepth 20000 in
theorem ggL_law_X4_digest : GoodIn wsL_law wsX4_digest := goodIn_r _ [704, 705, 706, 168, 170, 83, 61, 231, 232, 233, 5, 234, 54, 235, 236, 237, 238, 239, 240, 241, 242, 243, 244, 245, 246, 53, 247, 248, 249, 250, 251, 252, 253, 254, 167, 255, 256, 257, 258, 259, 260, 261, 262, 55, 56, 263, 264, 265, 266, 267, 268, 269, 270, 271, 272, 273, 707, 708, 709, 710, 711, 322, 323, 324, 325, 57, 326, 327, 328, 329, 712, 713, 714, 715, 415, 416, 417, 418, 62, 419, 420, 421, 422, 63, 379, 380, 381, 382, 423, 424, 425, 456, 457, 458, 459, 460, 461, 462, 463, 533, 534, 535, 536, 537, 538, 539, 540, 171, 58, 59, 560, 561, 562, 563, 564, 671, 672, 673, 674, 169, 635, 636, 637, 638, 675, 676, 677, 678, 724, 725, 726, 727, 728, 729, 730, 731, 732, 733, 734, 735, 736, 737, 738, 739, 740, 741, 742, 743, 744, 745, 746, 747, 748, 749, 750, 751, 752, 753] (by decide +kernel) (by decide +kernel)
set_option maxRecDepth 20000 in
theorem gL_law_X4_digest : GoodIn wsL_law (wsV RL 110 RX4 yX4_digest wsX4_digest) := goodIn_app (goodIn_of _ (by decide +kernel)) ggL_law_X4_digest
theorem dL_law_0 : decode cL_law 0 = .ok (.new 7, 3) := by decide +kernel
theorem dL_law_3 : decode cL_law 3 = .ok (.dup, 1) := by decide +kernel
theorem dL_law_4 : decode cL_law 4 = .ok (.invokespecial 9, 3) := by decide +kernel
theorem dL_law_7 : decode cL_law 7 = .ok (.astore_n 1, 1) := by decide +kernel
theorem dL_law_8 : decode cL_law 8 = .ok (.new 10, 3) := by decide +kernel
theorem dL_law_11 : decode cL_law 11 = .ok (.dup, 1) := by decide +kernel
theorem dL_law_12 : decode cL_law 12 = .ok (.invokespecial 12, 3) := by decide +kernel
theorem dL_law_15 : decode cL_law 15 = .ok (.astore_n 2, 1) := by decide +kernel
theorem dL_law_16 : decode cL_law 16 = .ok (.iconst 0, 1) := by decide +kernel
theorem dL_law_17 : decode cL_law 17 = .ok (.istore_n 3, 1) := by decide +kernel
theorem dL_law_18 : decode cL_law 18 = .ok (.iload_n 3, 1) := by decide +kernel
theorem dL_law_19 : decode cL_law 19 = .ok (.aload_n 0, 1) := by decide +kernel
theorem dL_law_20 : decode cL_law 20 = .ok (.arraylength, 1) := by decide +kernel
theorem dL_law_21 : decode cL_law 21 = .ok (.iconst 4, 1) := by decide +kernel
theorem dL_law_22 : decode cL_law 22 = .ok (.isub, 1) := by decide +kernel
theorem dL_law_23 : decode cL_law 23 = .ok (.if_icmp .gt 759, 3) := by decide +kernel
theorem dL_law_26 : decode cL_law 26 = .ok (.aload_n 0, 1) := by decide +kernel
theorem dL_law_27 : decode cL_law 27 = .ok (.iload_n 3, 1) := by decide +kernel
theorem dL_law_28 : decode cL_law 28 = .ok (.iaload, 1) := by decide +kernel
theorem dL_law_29 : decode cL_law 29 = .ok (.bipush 31, 2) := by decide +kernel
theorem dL_law_31 : decode cL_law 31 = .ok (.iand, 1) := by decide +kernel
theorem dL_law_32 : decode cL_law 32 = .ok (.tableswitch 744 0 22 #[108, 131, 144, 157, 170, 203, 236, 269, 302, 335, 378, 401, 444, 487, 536, 549, 572, 595, 638, 681, 694, 707, 730], 108) := by decide +kernel
theorem dL_law_140 : decode cL_law 140 = .ok (.aload_n 1, 1) := by decide +kernel
theorem dL_law_141 : decode cL_law 141 = .ok (.aload_n 0, 1) := by decide +kernel
theorem dL_law_142 : decode cL_law 142 = .ok (.iload_n 3, 1) := by decide +kernel
theorem dL_law_143 : decode cL_law 143 = .ok (.iconst 1, 1) := by decide +kernel
theorem dL_law_144 : decode cL_law 144 = .ok (.iadd, 1) := by decide +kernel
theorem dL_law_145 : decode cL_law 145 = .ok (.iaload, 1) := by decide +kernel
theorem dL_law_146 : decode cL_law 146 = .ok (.invokevirtual 13, 3) := by decide +kernel
theorem dL_law_149 : decode cL_law 149 = .ok (.aload_n 2, 1) := by decide +kernel
theorem dL_law_150 : decode cL_law 150 = .ok (.aload_n 0, 1) := by decide +kernel
theorem dL_law_151 : decode cL_law 151 = .ok (.iload_n 3, 1) := by decide +kernel
theorem dL_law_152 : decode cL_law 152 = .ok (.iconst 1, 1) := by decide +kernel
theorem dL_law_153 : decode cL_law 153 = .ok (.iadd, 1) := by decide +kernel
theorem dL_law_154 : decode cL_law 154 = .ok (.iaload, 1) := by decide +kernel
theorem dL_law_155 : decode cL_law 155 = .ok (.invokevirtual 17, 3) := by decide +kernel
theorem dL_law_158 : decode cL_law 158 = .ok (.if_icmp .eq 618, 3) := by decide +kernel
theorem dL_law_161 : decode cL_law 161 = .ok (.iconst 0, 1) := by decide +kernel
theorem dL_law_162 : decode cL_law 162 = .ok (.ireturn, 1) := by decide +kernel
theorem dL_law_163 : decode cL_law 163 = .ok (.aload_n 1, 1) := by decide +kernel
theorem dL_law_164 : decode cL_law 164 = .ok (.invokevirtual 18, 3) := by decide +kernel
theorem dL_law_167 : decode cL_law 167 = .ok (.aload_n 2, 1) := by decide +kernel
theorem dL_law_168 : decode cL_law 168 = .ok (.invokevirtual 22, 3) := by decide +kernel
theorem dL_law_171 : decode cL_law 171 = .ok (.if_icmp .eq 605, 3) := by decide +kernel
theorem dL_law_174 : decode cL_law 174 = .ok (.iconst 0, 1) := by decide +kernel
theorem dL_law_175 : decode cL_law 175 = .ok (.ireturn, 1) := by decide +kernel
theorem dL_law_176 : decode cL_law 176 = .ok (.aload_n 1, 1) := by decide +kernel
theorem dL_law_177 : decode cL_law 177 = .ok (.invokevirtual 23, 3) := by decide +kernel
theorem dL_law_180 : decode cL_law 180 = .ok (.aload_n 2, 1) := by decide +kernel
theorem dL_law_181 : decode cL_law 181 = .ok (.invokevirtual 26, 3) := by decide +kernel
theorem dL_law_184 : decode cL_law 184 = .ok (.if_icmp .eq 592, 3) := by decide +kernel
theorem dL_law_187 : decode cL_law 187 = .ok (.iconst 0, 1) := by decide +kernel
theorem dL_law_188 : decode cL_law 188 = .ok (.ireturn, 1) := by decide +kernel
theorem dL_law_189 : decode cL_law 189 = .ok (.aload_n 1, 1) := by decide +kernel
theorem dL_law_190 : decode cL_law 190 = .ok (.invokevirtual 27, 3) := by decide +kernel
theorem dL_law_193 : decode cL_law 193 = .ok (.aload_n 2, 1) := by decide +kernel
theorem dL_law_194 : decode cL_law 194 = .ok (.invokevirtual 30, 3) := by decide +kernel
theorem dL_law_197 : decode cL_law 197 = .ok (.if_icmp .eq 579, 3) := by decide +kernel
theorem dL_law_200 : decode cL_law 200 = .ok (.iconst 0, 1) := by decide +kernel
theorem dL_law_201 : decode cL_law 201 = .ok (.ireturn, 1) := by decide +kernel
theorem dL_law_202 : decode cL_law 202 = .ok (.aload_n 1, 1) := by decide +kernel
theorem dL_law_203 : decode cL_law 203 = .ok (.aload_n 0, 1) := by decide +kernel
theorem dL_law_204 : decode cL_law 204 = .ok (.iload_n 3, 1) := by decide +kernel
theorem dL_law_205 : decode cL_law 205 = .ok (.iconst 1, 1) := by decide +kernel
theorem dL_law_206 : decode cL_law 206 = .ok (.iadd, 1) := by decide +kernel
theorem dL_law_207 : decode cL_law 207 = .ok (.iaload, 1) := by decide +kernel
theorem dL_law_208 : decode cL_law 208 = .ok (.aload_n 0, 1) := by decide +kernel
theorem dL_law_209 : decode cL_law 209 = .ok (.iload_n 3, 1) := by decide +kernel
theorem dL_law_210 : decode cL_law 210 = .ok (.iconst 2, 1) := by decide +kernel
theorem dL_law_211 : decode cL_law 211 = .ok (.iadd, 1) := by decide +kernel
theorem dL_law_212 : decode cL_law 212 = .ok (.iaload, 1) := by decide +kernel
theorem dL_law_213 : decode cL_law 213 = .ok (.invokevirtual 31, 3) := by decide +kernel
theorem dL_law_216 : decode cL_law 216 = .ok (.aload_n 2, 1) := by decide +kernel
theorem dL_law_217 : decode cL_law 217 = .ok (.aload_n 0, 1) := by decide +kernel
theorem dL_law_218 : decode cL_law 218 = .ok (.iload_n 3, 1) := by decide +kernel
theorem dL_law_219 : decode cL_law 219 = .ok (.iconst 1, 1) := by decide +kernel
theorem dL_law_220 : decode cL_law 220 = .ok (.iadd, 1) := by decide +kernel
theorem dL_law_221 : decode cL_law 221 = .ok (.iaload, 1) := by decide +kernel
theorem dL_law_222 : decode cL_law 222 = .ok (.aload_n 0, 1) := by decide +kernel
theorem dL_law_223 : decode cL_law 223 = .ok (.iload_n 3, 1) := by decide +kernel
theorem dL_law_224 : decode cL_law 224 = .ok (.iconst 2, 1) := by decide +kernel
theorem dL_law_225 : decode cL_law 225 = .ok (.iadd, 1) := by decide +kernel
theorem dL_law_226 : decode cL_law 226 = .ok (.iaload, 1) := by decide +kernel
theorem dL_law_227 : decode cL_law 227 = .ok (.invokevirtual 35, 3) := by decide +kernel
theorem dL_law_230 : decode cL_law 230 = .ok (.if_icmp .eq 546, 3) := by decide +kernel
theorem dL_law_233 : decode cL_law 233 = .ok (.iconst 0, 1) := by decide +kernel
theorem dL_law_234 : decode cL_law 234 = .ok (.ireturn, 1) := by decide +kernel
theorem dL_law_235 : decode cL_law 235 = .ok (.aload_n 1, 1) := by decide +kernel
theorem dL_law_236 : decode cL_law 236 = .ok (.aload_n 0, 1) := by decide +kernel
theorem dL_law_237 : decode cL_law 237 = .ok (.iload_n 3, 1) := by decide +kernel
theorem dL_law_238 : decode cL_law 238 = .ok (.iconst 1, 1) := by decide +kernel
theorem dL_law_239 : decode cL_law 239 = .ok (.iadd, 1) := by decide +kernel
theorem dL_law_240 : decode cL_law 240 = .ok (.iaload, 1) := by decide +kernel
theorem dL_law_241 : decode cL_law 241 = .ok (.aload_n 0, 1) := by decide +kernel
theorem dL_law_242 : decode cL_law 242 = .ok (.iload_n 3, 1) := by decide +kernel
theorem dL_law_243 : decode cL_law 243 = .ok (.iconst 2, 1) := by decide +kernel
theorem dL_law_244 : decode cL_law 244 = .ok (.iadd, 1) := by decide +kernel
theorem dL_law_245 : decode cL_law 245 = .ok (.iaload, 1) := by decide +kernel
theorem dL_law_246 : decode cL_law 246 = .ok (.invokevirtual 36, 3) := by decide +kernel
theorem dL_law_249 : decode cL_law 249 = .ok (.aload_n 2, 1) := by decide +kernel
theorem dL_law_250 : decode cL_law 250 = .ok (.aload_n 0, 1) := by decide +kernel
theorem dL_law_251 : decode cL_law 251 = .ok (.iload_n 3, 1) := by decide +kernel
theorem dL_law_252 : decode cL_law 252 = .ok (.iconst 1, 1) := by decide +kernel
theorem dL_law_253 : decode cL_law 253 = .ok (.iadd, 1) := by decide +kernel
theorem dL_law_254 : decode cL_law 254 = .ok (.iaload, 1) := by decide +kernel
theorem dL_law_255 : decode cL_law 255 = .ok (.aload_n 0, 1) := by decide +kernel
theorem dL_law_256 : decode cL_law 256 = .ok (.iload_n 3, 1) := by decide +kernel
theorem dL_law_257 : decode cL_law 257 = .ok (.iconst 2, 1) := by decide +kernel
theorem dL_law_258 : decode cL_law 258 = .ok (.iadd, 1) := by decide +kernel
theorem dL_law_259 : decode cL_law 259 = .ok (.iaload, 1) := by decide +kernel
theorem dL_law_260 : decode cL_law 260 = .ok (.invokevirtual 39, 3) := by decide +kernel
theorem dL_law_263 : decode cL_law 263 = .ok (.if_icmp .eq 513, 3) := by decide +kernel
theorem dL_law_266 : decode cL_law 266 = .ok (.iconst 0, 1) := by decide +kernel
theorem dL_law_267 : decode cL_law 267 = .ok (.ireturn, 1) := by decide +kernel
theorem dL_law_268 : decode cL_law 268 = .ok (.aload_n 1, 1) := by decide +kernel
theorem dL_law_269 : decode cL_law 269 = .ok (.aload_n 0, 1) := by decide +kernel
theorem dL_law_270 : decode cL_law 270 = .ok (.iload_n 3, 1) := by decide +kernel
theorem dL_law_271 : decode cL_law 271 = .ok (.iconst 1, 1) := by decide +kernel
theorem dL_law_272 : decode cL_law 272 = .ok (.iadd, 1) := by decide +kernel
theorem dL_law_273 : decode cL_law 273 = .ok (.iaload, 1) := by decide +kernel
theorem dL_law_274 : decode cL_law 274 = .ok (.aload_n 0, 1) := by decide +kernel
theorem dL_law_275 : decode cL_law 275 = .ok (.iload_n 3, 1) := by decide +kernel
theorem dL_law_276 : decode cL_law 276 = .ok (.iconst 2, 1) := by decide +kernel
theorem dL_law_277 : decode cL_law 277 = .ok (.iadd, 1) := by decide +kernel
theorem dL_law_278 : decode cL_law 278 = .ok (.iaload, 1) := by decide +kernel
theorem dL_law_279 : decode cL_law 279 = .ok (.invokevirtual 40, 3) := by decide +kernel
theorem dL_law_282 : decode cL_law 282 = .ok (.aload_n 2, 1) := by decide +kernel
theorem dL_law_283 : decode cL_law 283 = .ok (.aload_n 0, 1) := by decide +kernel
theorem dL_law_284 : decode cL_law 284 = .ok (.iload_n 3, 1) := by decide +kernel
theorem dL_law_285 : decode cL_law 285 = .ok (.iconst 1, 1) := by decide +kernel
theorem dL_law_286 : decode cL_law 286 = .ok (.iadd, 1) := by decide +kernel
theorem dL_law_287 : decode cL_law 287 = .ok (.iaload, 1) := by decide +kernel
theorem dL_law_288 : decode cL_law 288 = .ok (.aload_n 0, 1) := by decide +kernel
theorem dL_law_289 : decode cL_law 289 = .ok (.iload_n 3, 1) := by decide +kernel
theorem dL_law_290 : decode cL_law 290 = .ok (.iconst 2, 1) := by decide +kernel
theorem dL_law_291 : decode cL_law 291 = .ok (.iadd, 1) := by decide +kernel
theorem dL_law_292 : decode cL_law 292 = .ok (.iaload, 1) := by decide +kernel
theorem dL_law_293 : decode cL_law 293 = .ok (.invokevirtual 43, 3) := by decide +kernel
theorem dL_law_296 : decode cL_law 296 = .ok (.if_icmp .eq 480, 3) := by decide +kernel
theorem dL_law_299 : decode cL_law 299 = .ok (.iconst 0, 1) := by decide +kernel
theorem dL_law_300 : decode cL_law 300 = .ok (.ireturn, 1) := by decide +kernel
theorem dL_law_301 : decode cL_law 301 = .ok (.aload_n 1, 1) := by decide +kernel
theorem dL_law_302 : decode cL_law 302 = .ok (.aload_n 0, 1) := by decide +kernel
theorem dL_law_303 : decode cL_law 303 = .ok (.iload_n 3, 1) := by decide +kernel
theorem dL_law_304 : decode cL_law 304 = .ok (.iconst 1, 1) := by decide +kernel
theorem dL_law_305 : decode cL_law 305 = .ok (.iadd, 1) := by decide +kernel
theorem dL_law_306 : decode cL_law 306 = .ok (.iaload, 1) := by decide +kernel
theorem dL_law_307 : decode cL_law 307 = .ok (.aload_n 0, 1) := by decide +kernel
theorem dL_law_308 : decode cL_law 308 = .ok (.iload_n 3, 1) := by decide +kernel
theorem dL_law_309 : decode cL_law 309 = .ok (.iconst 2, 1) := by decide +kernel
theorem dL_law_310 : decode cL_law 310 = .ok (.iadd, 1) := by decide +kernel
theorem dL_law_311 : decode cL_law 311 = .ok (.iaload, 1) := by decide +kernel
theorem dL_law_312 : decode cL_law 312 = .ok (.invokevirtual 44, 3) := by decide +kernel
theorem dL_law_315 : decode cL_law 315 = .ok (.aload_n 2, 1) := by decide +kernel
theorem dL_law_316 : decode cL_law 316 = .ok (.aload_n 0, 1) := by decide +kernel
theorem dL_law_317 : decode cL_law 317 = .ok (.iload_n 3, 1) := by decide +kernel
theorem dL_law_318 : decode cL_law 318 = .ok (.iconst 1, 1) := by decide +kernel
theorem dL_law_319 : decode cL_law 319 = .ok (.iadd, 1) := by decide +kernel
theorem dL_law_320 : decode cL_law 320 = .ok (.iaload, 1) := by decide +kernel
theorem dL_law_321 : decode cL_law 321 = .ok (.aload_n 0, 1) := by decide +kernel
theorem dL_law_322 : decode cL_law 322 = .ok (.iload_n 3, 1) := by decide +kernel
theorem dL_law_323 : decode cL_law 323 = .ok (.iconst 2, 1) := by decide +kernel
theorem dL_law_324 : decode cL_law 324 = .ok (.iadd, 1) := by decide +kernel
theorem dL_law_325 : decode cL_law 325 = .ok (.iaload, 1) := by decide +kernel
theorem dL_law_326 : decode cL_law 326 = .ok (.invokevirtual 47, 3) := by decide +kernel
theorem dL_law_329 : decode cL_law 329 = .ok (.if_icmp .eq 447, 3) := by decide +kernel
theorem dL_law_332 : decode cL_law 332 = .ok (.iconst 0, 1) := by decide +kernel
theorem dL_law_333 : decode cL_law 333 = .ok (.ireturn, 1) := by decide +kernel
theorem dL_law_334 : decode cL_law 334 = .ok (.aload_n 1, 1) := by decide +kernel
theorem dL_law_335 : decode cL_law 335 = .ok (.aload_n 0, 1) := by decide +kernel
theorem dL_law_336 : decode cL_law 336 = .ok (.iload_n 3, 1) := by decide +kernel
theorem dL_law_337 : decode cL_law 337 = .ok (.iconst 1, 1) := by decide +kernel
theorem dL_law_338 : decode cL_law 338 = .ok (.iadd, 1) := by decide +kernel
theorem dL_law_339 : decode cL_law 339 = .ok (.iaload, 1) := by decide +kernel
theorem dL_law_340 : decode cL_law 340 = .ok (.aload_n 0, 1) := by decide +kernel
theorem dL_law_341 : decode cL_law 341 = .ok (.iload_n 3, 1) := by decide +kernel
theorem dL_law_342 : decode cL_law 342 = .ok (.iconst 2, 1) := by decide +kernel
theorem dL_law_343 : decode cL_law 343 = .ok (.iadd, 1) := by decide +kernel
theorem dL_law_344 : decode cL_law 344 = .ok (.iaload, 1) := by decide +kernel
theorem dL_law_345 : decode cL_law 345 = .ok (.invokevirtual 48, 3) := by decide +kernel
theorem dL_law_348 : decode cL_law 348 = .ok (.aload_n 2, 1) := by decide +kernel
theorem dL_law_349 : decode cL_law 349 = .ok (.aload_n 0, 1) := by decide +kernel
theorem dL_law_350 : decode cL_law 350 = .ok (.iload_n 3, 1) := by decide +kernel
theorem dL_law_351 : decode cL_law 351 = .ok (.iconst 1, 1) := by decide +kernel
theorem dL_law_352 : decode cL_law 352 = .ok (.iadd, 1) := by decide +kernel
theorem dL_law_353 : decode cL_law 353 = .ok (.iaload, 1) := by decide +kernel
theorem dL_law_354 : decode cL_law 354 = .ok (.aload_n 0, 1) := by decide +kernel
theorem dL_law_355 : decode cL_law 355 = .ok (.iload_n 3, 1) := by decide +kernel
theorem dL_law_356 : decode cL_law 356 = .ok (.iconst 2, 1) := by decide +kernel
theorem dL_law_357 : decode cL_law 357 = .ok (.iadd, 1) := by decide +kernel
theorem dL_law_358 : decode cL_law 358 = .ok (.iaload, 1) := by decide +kernel
theorem dL_law_359 : decode cL_law 359 = .ok (.invokevirtual 51, 3) := by decide +kernel
theorem dL_law_362 : decode cL_law 362 = .ok (.if_icmp .eq 414, 3) := by decide +kernel
theorem dL_law_365 : decode cL_law 365 = .ok (.iconst 0, 1) := by decide +kernel
theorem dL_law_366 : decode cL_law 366 = .ok (.ireturn, 1) := by decide +kernel
theorem dL_law_367 : decode cL_law 367 = .ok (.aload_n 1, 1) := by decide +kernel
theorem dL_law_368 : decode cL_law 368 = .ok (.aload_n 0, 1) := by decide +kernel
theorem dL_law_369 : decode cL_law 369 = .ok (.iload_n 3, 1) := by decide +kernel
theorem dL_law_370 : decode cL_law 370 = .ok (.iconst 1, 1) := by decide +kernel
theorem dL_law_371 : decode cL_law 371 = .ok (.iadd, 1) := by decide +kernel
theorem dL_law_372 : decode cL_law 372 = .ok (.iaload, 1) := by decide +kernel
theorem dL_law_373 : decode cL_law 373 = .ok (.aload_n 0, 1) := by decide +kernel
theorem dL_law_374 : decode cL_law 374 = .ok (.iload_n 3, 1) := by decide +kernel
theorem dL_law_375 : decode cL_law 375 = .ok (.iconst 2, 1) := by decide +kernel
theorem dL_law_376 : decode cL_law 376 = .ok (.iadd, 1) := by decide +kernel
theorem dL_law_377 : decode cL_law 377 = .ok (.iaload, 1) := by decide +kernel
theorem dL_law_378 : decode cL_law 378 = .ok (.aload_n 0, 1) := by decide +kernel
theorem dL_law_379 : decode cL_law 379 = .ok (.iload_n 3, 1) := by decide +kernel
theorem dL_law_380 : decode cL_law 380 = .ok (.iconst 3, 1) := by decide +kernel
theorem dL_law_381 : decode cL_law 381 = .ok (.iadd, 1) := by decide +kernel
theorem dL_law_382 : decode cL_law 382 = .ok (.iaload, 1) := by decide +kernel
theorem dL_law_383 : decode cL_law 383 = .ok (.invokevirtual 52, 3) := by decide +kernel
theorem dL_law_386 : decode cL_law 386 = .ok (.aload_n 2, 1) := by decide +kernel
theorem dL_law_387 : decode cL_law 387 = .ok (.aload_n 0, 1) := by decide +kernel
theorem dL_law_388 : decode cL_law 388 = .ok (.iload_n 3, 1) := by decide +kernel
theorem dL_law_389 : decode cL_law 389 = .ok (.iconst 1, 1) := by decide +kernel
theorem dL_law_390 : decode cL_law 390 = .ok (.iadd, 1) := by decide +kernel
theorem dL_law_391 : decode cL_law 391 = .ok (.iaload, 1) := by decide +kernel
theorem dL_law_392 : decode cL_law 392 = .ok (.aload_n 0, 1) := by decide +kernel
theorem dL_law_393 : decode cL_law 393 = .ok (.iload_n 3, 1) := by decide +kernel
theorem dL_law_394 : decode cL_law 394 = .ok (.iconst 2, 1) := by decide +kernel
theorem dL_law_395 : decode cL_law 395 = .ok (.iadd, 1) := by decide +kernel
theorem dL_law_396 : decode cL_law 396 = .ok (.iaload, 1) := by decide +kernel
theorem dL_law_397 : decode cL_law 397 = .ok (.aload_n 0, 1) := by decide +kernel
theorem dL_law_398 : decode cL_law 398 = .ok (.iload_n 3, 1) := by decide +kernel
theorem dL_law_399 : decode cL_law 399 = .ok (.iconst 3, 1) := by decide +kernel
theorem dL_law_400 : decode cL_law 400 = .ok (.iadd, 1) := by decide +kernel
theorem dL_law_401 : decode cL_law 401 = .ok (.iaload, 1) := by decide +kernel
theorem dL_law_402 : decode cL_law 402 = .ok (.invokevirtual 56, 3) := by decide +kernel
theorem dL_law_405 : decode cL_law 405 = .ok (.if_icmp .eq 371, 3) := by decide +kernel
theorem dL_law_408 : decode cL_law 408 = .ok (.iconst 0, 1) := by decide +kernel
theorem dL_law_409 : decode cL_law 409 = .ok (.ireturn, 1) := by decide +kernel
theorem dL_law_410 : decode cL_law 410 = .ok (.aload_n 1, 1) := by decide +kernel
theorem dL_law_411 : decode cL_law 411 = .ok (.aload_n 0, 1) := by decide +kernel
theorem dL_law_412 : decode cL_law 412 = .ok (.iload_n 3, 1) := by decide +kernel
theorem dL_law_413 : decode cL_law 413 = .ok (.iconst 1, 1) := by decide +kernel
theorem dL_law_414 : decode cL_law 414 = .ok (.iadd, 1) := by decide +kernel
theorem dL_law_415 : decode cL_law 415 = .ok (.iaload, 1) := by decide +kernel
theorem dL_law_416 : decode cL_law 416 = .ok (.invokevirtual 57, 3) := by decide +kernel
theorem dL_law_419 : decode cL_law 419 = .ok (.aload_n 2, 1) := by decide +kernel
theorem dL_law_420 : decode cL_law 420 = .ok (.aload_n 0, 1) := by decide +kernel
theorem dL_law_421 : decode cL_law 421 = .ok (.iload_n 3, 1) := by decide +kernel
theorem dL_law_422 : decode cL_law 422 = .ok (.iconst 1, 1) := by decide +kernel
theorem dL_law_423 : decode cL_law 423 = .ok (.iadd, 1) := by decide +kernel
theorem dL_law_424 : decode cL_law 424 = .ok (.iaload, 1) := by decide +kernel
theorem dL_law_425 : decode cL_law 425 = .ok (.invokevirtual 60, 3) := by decide +kernel
theorem dL_law_428 : decode cL_law 428 = .ok (.if_icmp .eq 348, 3) := by decide +kernel
theorem dL_law_431 : decode cL_law 431 = .ok (.iconst 0, 1) := by decide +kernel
theorem dL_law_432 : decode cL_law 432 = .ok (.ireturn, 1) := by decide +kernel
theorem dL_law_433 : decode cL_law 433 = .ok (.aload_n 1, 1) := by decide +kernel
theorem dL_law_434 : decode cL_law 434 = .ok (.aload_n 0, 1) := by decide +kernel
theorem dL_law_435 : decode cL_law 435 = .ok (.iload_n 3, 1) := by decide +kernel
theorem dL_law_436 : decode cL_law 436 = .ok (.iconst 1, 1) := by decide +kernel
theorem dL_law_437 : decode cL_law 437 = .ok (.iadd, 1) := by decide +kernel
theorem dL_law_438 : decode cL_law 438 = .ok (.iaload, 1) := by decide +kernel
theorem dL_law_439 : decode cL_law 439 = .ok (.aload_n 0, 1) := by decide +kernel
theorem dL_law_440 : decode cL_law 440 = .ok (.iload_n 3, 1) := by decide +kernel
theorem dL_law_441 : decode cL_law 441 = .ok (.iconst 2, 1) := by decide +kernel
theorem dL_law_442 : decode cL_law 442 = .ok (.iadd, 1) := by decide +kernel
theorem dL_law_443 : decode cL_law 443 = .ok (.iaload, 1) := by decide +kernel
theorem dL_law_444 : decode cL_law 444 = .ok (.aload_n 0, 1) := by decide +kernel
theorem dL_law_445 : decode cL_law 445 = .ok (.iload_n 3, 1) := by decide +kernel
theorem dL_law_446 : decode cL_law 446 = .ok (.iconst 3, 1) := by decide +kernel
theorem dL_law_447 : decode cL_law 447 = .ok (.iadd, 1) := by decide +kernel
theorem dL_law_448 : decode cL_law 448 = .ok (.iaload, 1) := by decide +kernel
theorem dL_law_449 : decode cL_law 449 = .ok (.invokevirtual 61, 3) := by decide +kernel
theorem dL_law_452 : decode cL_law 452 = .ok (.aload_n 2, 1) := by decide +kernel
theorem dL_law_453 : decode cL_law 453 = .ok (.aload_n 0, 1) := by decide +kernel
theorem dL_law_454 : decode cL_law 454 = .ok (.iload_n 3, 1) := by decide +kernel
theorem dL_law_455 : decode cL_law 455 = .ok (.iconst 1, 1) := by decide +kernel
theorem dL_law_456 : decode cL_law 456 = .ok (.iadd, 1) := by decide +kernel
theorem dL_law_457 : decode cL_law 457 = .ok (.iaload, 1) := by decide +kernel
theorem dL_law_458 : decode cL_law 458 = .ok (.aload_n 0, 1) := by decide +kernel
theorem dL_law_459 : decode cL_law 459 = .ok (.iload_n 3, 1) := by decide +kernel
theorem dL_law_460 : decode cL_law 460 = .ok (.iconst 2, 1) := by decide +kernel
theorem dL_law_461 : decode cL_law 461 = .ok (.iadd, 1) := by decide +kernel
theorem dL_law_462 : decode cL_law 462 = .ok (.iaload, 1) := by decide +kernel
theorem dL_law_463 : decode cL_law 463 = .ok (.aload_n 0, 1) := by decide +kernel
theorem dL_law_464 : decode cL_law 464 = .ok (.iload_n 3, 1) := by decide +kernel
theorem dL_law_465 : decode cL_law 465 = .ok (.iconst 3, 1) := by decide +kernel
theorem dL_law_466 : decode cL_law 466 = .ok (.iadd, 1) := by decide +kernel
theorem dL_law_467 : decode cL_law 467 = .ok (.iaload, 1) := by decide +kernel
theorem dL_law_468 : decode cL_law 468 = .ok (.invokevirtual 64, 3) := by decide +kernel
theorem dL_law_471 : decode cL_law 471 = .ok (.if_icmp .eq 305, 3) := by decide +kernel
theorem dL_law_474 : decode cL_law 474 = .ok (.iconst 0, 1) := by decide +kernel
theorem dL_law_475 : decode cL_law 475 = .ok (.ireturn, 1) := by decide +kernel
theorem dL_law_476 : decode cL_law 476 = .ok (.aload_n 1, 1) := by decide +kernel
theorem dL_law_477 : decode cL_law 477 = .ok (.aload_n 0, 1) := by decide +kernel
theorem dL_law_478 : decode cL_law 478 = .ok (.iload_n 3, 1) := by decide +kernel
theorem dL_law_479 : decode cL_law 479 = .ok (.iconst 1, 1) := by decide +kernel
theorem dL_law_480 : decode cL_law 480 = .ok (.iadd, 1) := by decide +kernel
theorem dL_law_481 : decode cL_law 481 = .ok (.iaload, 1) := by decide +kernel
theorem dL_law_482 : decode cL_law 482 = .ok (.aload_n 0, 1) := by decide +kernel
theorem dL_law_483 : decode cL_law 483 = .ok (.iload_n 3, 1) := by decide +kernel
theorem dL_law_484 : decode cL_law 484 = .ok (.iconst 2, 1) := by decide +kernel
theorem dL_law_485 : decode cL_law 485 = .ok (.iadd, 1) := by decide +kernel
theorem dL_law_486 : decode cL_law 486 = .ok (.iaload, 1) := by decide +kernel
theorem dL_law_487 : decode cL_law 487 = .ok (.aload_n 0, 1) := by decide +kernel
theorem dL_law_488 : decode cL_law 488 = .ok (.iload_n 3, 1) := by decide +kernel
theorem dL_law_489 : decode cL_law 489 = .ok (.iconst 3, 1) := by decide +kernel
theorem dL_law_490 : decode cL_law 490 = .ok (.iadd, 1) := by decide +kernel
theorem dL_law_491 : decode cL_law 491 = .ok (.iaload, 1) := by decide +kernel
theorem dL_law_492 : decode cL_law 492 = .ok (.invokevirtual 65, 3) := by decide +kernel
theorem dL_law_495 : decode cL_law 495 = .ok (.aload_n 2, 1) := by decide +kernel
theorem dL_law_496 : decode cL_law 496 = .ok (.aload_n 0, 1) := by decide +kernel
theorem dL_law_497 : decode cL_law 497 = .ok (.iload_n 3, 1) := by decide +kernel
theorem dL_law_498 : decode cL_law 498 = .ok (.iconst 1, 1) := by decide +kernel
theorem dL_law_499 : decode cL_law 499 = .ok (.iadd, 1) := by decide +kernel
theorem dL_law_500 : decode cL_law 500 = .ok (.iaload, 1) := by decide +kernel
theorem dL_law_501 : decode cL_law 501 = .ok (.aload_n 0, 1) := by decide +kernel
theorem dL_law_502 : decode cL_law 502 = .ok (.iload_n 3, 1) := by decide +kernel
theorem dL_law_503 : decode cL_law 503 = .ok (.iconst 2, 1) := by decide +kernel
theorem dL_law_504 : decode cL_law 504 = .ok (.iadd, 1) := by decide +kernel
theorem dL_law_505 : decode cL_law 505 = .ok (.iaload, 1) := by decide +kernel
theorem dL_law_506 : decode cL_law 506 = .ok (.aload_n 0, 1) := by decide +kernel
theorem dL_law_507 : decode cL_law 507 = .ok (.iload_n 3, 1) := by decide +kernel
theorem dL_law_508 : decode cL_law 508 = .ok (.iconst 3, 1) := by decide +kernel
theorem dL_law_509 : decode cL_law 509 = .ok (.iadd, 1) := by decide +kernel
theorem dL_law_510 : decode cL_law 510 = .ok (.iaload, 1) := by decide +kernel
theorem dL_law_511 : decode cL_law 511 = .ok (.invokevirtual 68, 3) := by decide +kernel
theorem dL_law_514 : decode cL_law 514 = .ok (.if_icmp .eq 262, 3) := by decide +kernel
theorem dL_law_517 : decode cL_law 517 = .ok (.iconst 0, 1) := by decide +kernel
theorem dL_law_518 : decode cL_law 518 = .ok (.ireturn, 1) := by decide +kernel
theorem dL_law_519 : decode cL_law 519 = .ok (.aload_n 1, 1) := by decide +kernel
theorem dL_law_520 : decode cL_law 520 = .ok (.aload_n 0, 1) := by decide +kernel
theorem dL_law_521 : decode cL_law 521 = .ok (.iload_n 3, 1) := by decide +kernel
theorem dL_law_522 : decode cL_law 522 = .ok (.iconst 1, 1) := by decide +kernel
theorem dL_law_523 : decode cL_law 523 = .ok (.iadd, 1) := by decide +kernel
theorem dL_law_524 : decode cL_law 524 = .ok (.iaload, 1) := by decide +kernel
theorem dL_law_525 : decode cL_law 525 = .ok (.aload_n 0, 1) := by decide +kernel
theorem dL_law_526 : decode cL_law 526 = .ok (.iload_n 3, 1) := by decide +kernel
theorem dL_law_527 : decode cL_law 527 = .ok (.iconst 2, 1) := by decide +kernel
theorem dL_law_528 : decode cL_law 528 = .ok (.iadd, 1) := by decide +kernel
theorem dL_law_529 : decode cL_law 529 = .ok (.iaload, 1) := by decide +kernel
theorem dL_law_530 : decode cL_law 530 = .ok (.ifCond .eq 7, 3) := by decide +kernel
theorem dL_law_533 : decode cL_law 533 = .ok (.iconst 1, 1) := by decide +kernel
theorem dL_law_534 : decode cL_law 534 = .ok (.goto 4, 3) := by decide +kernel
theorem dL_law_537 : decode cL_law 537 = .ok (.iconst 0, 1) := by decide +kernel
theorem dL_law_538 : decode cL_law 538 = .ok (.invokevirtual 69, 3) := by decide +kernel
theorem dL_law_541 : decode cL_law 541 = .ok (.aload_n 2, 1) := by decide +kernel
theorem dL_law_542 : decode cL_law 542 = .ok (.aload_n 0, 1) := by decide +kernel
theorem dL_law_543 : decode cL_law 543 = .ok (.iload_n 3, 1) := by decide +kernel
theorem dL_law_544 : decode cL_law 544 = .ok (.iconst 1, 1) := by decide +kernel
theorem dL_law_545 : decode cL_law 545 = .ok (.iadd, 1) := by decide +kernel
theorem dL_law_546 : decode cL_law 546 = .ok (.iaload, 1) := by decide +kernel
theorem dL_law_547 : decode cL_law 547 = .ok (.aload_n 0, 1) := by decide +kernel
theorem dL_law_548 : decode cL_law 548 = .ok (.iload_n 3, 1) := by decide +kernel
theorem dL_law_549 : decode cL_law 549 = .ok (.iconst 2, 1) := by decide +kernel
theorem dL_law_550 : decode cL_law 550 = .ok (.iadd, 1) := by decide +kernel
theorem dL_law_551 : decode cL_law 551 = .ok (.iaload, 1) := by decide +kernel
theorem dL_law_552 : decode cL_law 552 = .ok (.ifCond .eq 7, 3) := by decide +kernel
theorem dL_law_555 : decode cL_law 555 = .ok (.iconst 1, 1) := by decide +kernel
theorem dL_law_556 : decode cL_law 556 = .ok (.goto 4, 3) := by decide +kernel
theorem dL_law_559 : decode cL_law 559 = .ok (.iconst 0, 1) := by decide +kernel
theorem dL_law_560 : decode cL_law 560 = .ok (.invokevirtual 73, 3) := by decide +kernel
theorem dL_law_563 : decode cL_law 563 = .ok (.if_icmp .eq 213, 3) := by decide +kernel
theorem dL_law_566 : decode cL_law 566 = .ok (.iconst 0, 1) := by decide +kernel
theorem dL_law_567 : decode cL_law 567 = .ok (.ireturn, 1) := by decide +kernel
theorem dL_law_568 : decode cL_law 568 = .ok (.aload_n 1, 1) := by decide +kernel
theorem dL_law_569 : decode cL_law 569 = .ok (.invokevirtual 74, 3) := by decide +kernel
theorem dL_law_572 : decode cL_law 572 = .ok (.aload_n 2, 1) := by decide +kernel
theorem dL_law_573 : decode cL_law 573 = .ok (.invokevirtual 77, 3) := by decide +kernel
theorem dL_law_576 : decode cL_law 576 = .ok (.if_icmp .eq 200, 3) := by decide +kernel
theorem dL_law_579 : decode cL_law 579 = .ok (.iconst 0, 1) := by decide +kernel
theorem dL_law_580 : decode cL_law 580 = .ok (.ireturn, 1) := by decide +kernel
theorem dL_law_581 : decode cL_law 581 = .ok (.aload_n 1, 1) := by decide +kernel
theorem dL_law_582 : decode cL_law 582 = .ok (.aload_n 0, 1) := by decide +kernel
theorem dL_law_583 : decode cL_law 583 = .ok (.iload_n 3, 1) := by decide +kernel
theorem dL_law_584 : decode cL_law 584 = .ok (.iconst 1, 1) := by decide +kernel
theorem dL_law_585 : decode cL_law 585 = .ok (.iadd, 1) := by decide +kernel
theorem dL_law_586 : decode cL_law 586 = .ok (.iaload, 1) := by decide +kernel
theorem dL_law_587 : decode cL_law 587 = .ok (.invokevirtual 78, 3) := by decide +kernel
theorem dL_law_590 : decode cL_law 590 = .ok (.aload_n 2, 1) := by decide +kernel
theorem dL_law_591 : decode cL_law 591 = .ok (.aload_n 0, 1) := by decide +kernel
theorem dL_law_592 : decode cL_law 592 = .ok (.iload_n 3, 1) := by decide +kernel
theorem dL_law_593 : decode cL_law 593 = .ok (.iconst 1, 1) := by decide +kernel
theorem dL_law_594 : decode cL_law 594 = .ok (.iadd, 1) := by decide +kernel
theorem dL_law_595 : decode cL_law 595 = .ok (.iaload, 1) := by decide +kernel
theorem dL_law_596 : decode cL_law 596 = .ok (.invokevirtual 81, 3) := by decide +kernel
theorem dL_law_599 : decode cL_law 599 = .ok (.if_icmp .eq 177, 3) := by decide +kernel
theorem dL_law_602 : decode cL_law 602 = .ok (.iconst 0, 1) := by decide +kernel
theorem dL_law_603 : decode cL_law 603 = .ok (.ireturn, 1) := by decide +kernel
theorem dL_law_604 : decode cL_law 604 = .ok (.aload_n 1, 1) := by decide +kernel
theorem dL_law_605 : decode cL_law 605 = .ok (.aload_n 0, 1) := by decide +kernel
theorem dL_law_606 : decode cL_law 606 = .ok (.iload_n 3, 1) := by decide +kernel
theorem dL_law_607 : decode cL_law 607 = .ok (.iconst 1, 1) := by decide +kernel
theorem dL_law_608 : decode cL_law 608 = .ok (.iadd, 1) := by decide +kernel
theorem dL_law_609 : decode cL_law 609 = .ok (.iaload, 1) := by decide +kernel
theorem dL_law_610 : decode cL_law 610 = .ok (.invokevirtual 82, 3) := by decide +kernel
theorem dL_law_613 : decode cL_law 613 = .ok (.aload_n 2, 1) := by decide +kernel
theorem dL_law_614 : decode cL_law 614 = .ok (.aload_n 0, 1) := by decide +kernel
theorem dL_law_615 : decode cL_law 615 = .ok (.iload_n 3, 1) := by decide +kernel
theorem dL_law_616 : decode cL_law 616 = .ok (.iconst 1, 1) := by decide +kernel
theorem dL_law_617 : decode cL_law 617 = .ok (.iadd, 1) := by decide +kernel
theorem dL_law_618 : decode cL_law 618 = .ok (.iaload, 1) := by decide +kernel
theorem dL_law_619 : decode cL_law 619 = .ok (.invokevirtual 85, 3) := by decide +kernel
theorem dL_law_622 : decode cL_law 622 = .ok (.if_icmp .eq 154, 3) := by decide +kernel
theorem dL_law_625 : decode cL_law 625 = .ok (.iconst 0, 1) := by decide +kernel
theorem dL_law_626 : decode cL_law 626 = .ok (.ireturn, 1) := by decide +kernel
theorem dL_law_627 : decode cL_law 627 = .ok (.aload_n 1, 1) := by decide +kernel
theorem dL_law_628 : decode cL_law 628 = .ok (.aload_n 0, 1) := by decide +kernel
theorem dL_law_629 : decode cL_law 629 = .ok (.iload_n 3, 1) := by decide +kernel
theorem dL_law_630 : decode cL_law 630 = .ok (.iconst 1, 1) := by decide +kernel
theorem dL_law_631 : decode cL_law 631 = .ok (.iadd, 1) := by decide +kernel
theorem dL_law_632 : decode cL_law 632 = .ok (.iaload, 1) := by decide +kernel
theorem dL_law_633 : decode cL_law 633 = .ok (.aload_n 0, 1) := by decide +kernel
theorem dL_law_634 : decode cL_law 634 = .ok (.iload_n 3, 1) := by decide +kernel
theorem dL_law_635 : decode cL_law 635 = .ok (.iconst 2, 1) := by decide +kernel
theorem dL_law_636 : decode cL_law 636 = .ok (.iadd, 1) := by decide +kernel
theorem dL_law_637 : decode cL_law 637 = .ok (.iaload, 1) := by decide +kernel
theorem dL_law_638 : decode cL_law 638 = .ok (.aload_n 0, 1) := by decide +kernel
theorem dL_law_639 : decode cL_law 639 = .ok (.iload_n 3, 1) := by decide +kernel
theorem dL_law_640 : decode cL_law 640 = .ok (.iconst 3, 1) := by decide +kernel
theorem dL_law_641 : decode cL_law 641 = .ok (.iadd, 1) := by decide +kernel
theorem dL_law_642 : decode cL_law 642 = .ok (.iaload, 1) := by decide +kernel
theorem dL_law_643 : decode cL_law 643 = .ok (.invokevirtual 86, 3) := by decide +kernel
theorem dL_law_646 : decode cL_law 646 = .ok (.aload_n 2, 1) := by decide +kernel
theorem dL_law_647 : decode cL_law 647 = .ok (.aload_n 0, 1) := by decide +kernel
theorem dL_law_648 : decode cL_law 648 = .ok (.iload_n 3, 1) := by decide +kernel
theorem dL_law_649 : decode cL_law 649 = .ok (.iconst 1, 1) := by decide +kernel
theorem dL_law_650 : decode cL_law 650 = .ok (.iadd, 1) := by decide +kernel
theorem dL_law_651 : decode cL_law 651 = .ok (.iaload, 1) := by decide +kernel
theorem dL_law_652 : decode cL_law 652 = .ok (.aload_n 0, 1) := by decide +kernel
theorem dL_law_653 : decode cL_law 653 = .ok (.iload_n 3, 1) := by decide +kernel
theorem dL_law_654 : decode cL_law 654 = .ok (.iconst 2, 1) := by decide +kernel
theorem dL_law_655 : decode cL_law 655 = .ok (.iadd, 1) := by decide +kernel
theorem dL_law_656 : decode cL_law 656 = .ok (.iaload, 1) := by decide +kernel
theorem dL_law_657 : decode cL_law 657 = .ok (.aload_n 0, 1) := by decide +kernel
theorem dL_law_658 : decode cL_law 658 = .ok (.iload_n 3, 1) := by decide +kernel
theorem dL_law_659 : decode cL_law 659 = .ok (.iconst 3, 1) := by decide +kernel
theorem dL_law_660 : decode cL_law 660 = .ok (.iadd, 1) := by decide +kernel
theorem dL_law_661 : decode cL_law 661 = .ok (.iaload, 1) := by decide +kernel
theorem dL_law_662 : decode cL_law 662 = .ok (.invokevirtual 89, 3) := by decide +kernel
theorem dL_law_665 : decode cL_law 665 = .ok (.if_icmp .eq 111, 3) := by decide +kernel
theorem dL_law_668 : decode cL_law 668 = .ok (.iconst 0, 1) := by decide +kernel
theorem dL_law_669 : decode cL_law 669 = .ok (.ireturn, 1) := by decide +kernel
theorem dL_law_670 : decode cL_law 670 = .ok (.aload_n 1, 1) := by decide +kernel
theorem dL_law_671 : decode cL_law 671 = .ok (.aload_n 0, 1) := by decide +kernel
theorem dL_law_672 : decode cL_law 672 = .ok (.iload_n 3, 1) := by decide +kernel
theorem dL_law_673 : decode cL_law 673 = .ok (.iconst 1, 1) := by decide +kernel
theorem dL_law_674 : decode cL_law 674 = .ok (.iadd, 1) := by decide +kernel
theorem dL_law_675 : decode cL_law 675 = .ok (.iaload, 1) := by decide +kernel
theorem dL_law_676 : decode cL_law 676 = .ok (.aload_n 0, 1) := by decide +kernel
theorem dL_law_677 : decode cL_law 677 = .ok (.iload_n 3, 1) := by decide +kernel
theorem dL_law_678 : decode cL_law 678 = .ok (.iconst 2, 1) := by decide +kernel
theorem dL_law_679 : decode cL_law 679 = .ok (.iadd, 1) := by decide +kernel
theorem dL_law_680 : decode cL_law 680 = .ok (.iaload, 1) := by decide +kernel
theorem dL_law_681 : decode cL_law 681 = .ok (.aload_n 0, 1) := by decide +kernel
theorem dL_law_682 : decode cL_law 682 = .ok (.iload_n 3, 1) := by decide +kernel
theorem dL_law_683 : decode cL_law 683 = .ok (.iconst 3, 1) := by decide +kernel
theorem dL_law_684 : decode cL_law 684 = .ok (.iadd, 1) := by decide +kernel
theorem dL_law_685 : decode cL_law 685 = .ok (.iaload, 1) := by decide +kernel
theorem dL_law_686 : decode cL_law 686 = .ok (.invokevirtual 90, 3) := by decide +kernel
theorem dL_law_689 : decode cL_law 689 = .ok (.aload_n 2, 1) := by decide +kernel
theorem dL_law_690 : decode cL_law 690 = .ok (.aload_n 0, 1) := by decide +kernel
theorem dL_law_691 : decode cL_law 691 = .ok (.iload_n 3, 1) := by decide +kernel
theorem dL_law_692 : decode cL_law 692 = .ok (.iconst 1, 1) := by decide +kernel
theorem dL_law_693 : decode cL_law 693 = .ok (.iadd, 1) := by decide +kernel
theorem dL_law_694 : decode cL_law 694 = .ok (.iaload, 1) := by decide +kernel
theorem dL_law_695 : decode cL_law 695 = .ok (.aload_n 0, 1) := by decide +kernel
theorem dL_law_696 : decode cL_law 696 = .ok (.iload_n 3, 1) := by decide +kernel
theorem dL_law_697 : decode cL_law 697 = .ok (.iconst 2, 1) := by decide +kernel
theorem dL_law_698 : decode cL_law 698 = .ok (.iadd, 1) := by decide +kernel
theorem dL_law_699 : decode cL_law 699 = .ok (.iaload, 1) := by decide +kernel
theorem dL_law_700 : decode cL_law 700 = .ok (.aload_n 0, 1) := by decide +kernel
theorem dL_law_701 : decode cL_law 701 = .ok (.iload_n 3, 1) := by decide +kernel
theorem dL_law_702 : decode cL_law 702 = .ok (.iconst 3, 1) := by decide +kernel
theorem dL_law_703 : decode cL_law 703 = .ok (.iadd, 1) := by decide +kernel
theorem dL_law_704 : decode cL_law 704 = .ok (.iaload, 1) := by decide +kernel
theorem dL_law_705 : decode cL_law 705 = .ok (.invokevirtual 93, 3) := by decide +kernel
theorem dL_law_708 : decode cL_law 708 = .ok (.if_icmp .eq 68, 3) := by decide +kernel
theorem dL_law_711 : decode cL_law 711 = .ok (.iconst 0, 1) := by decide +kernel
theorem dL_law_712 : decode cL_law 712 = .ok (.ireturn, 1) := by decide +kernel
theorem dL_law_713 : decode cL_law 713 = .ok (.aload_n 1, 1) := by decide +kernel
theorem dL_law_714 : decode cL_law 714 = .ok (.invokevirtual 94, 3) := by decide +kernel
theorem dL_law_717 : decode cL_law 717 = .ok (.aload_n 2, 1) := by decide +kernel
theorem dL_law_718 : decode cL_law 718 = .ok (.invokevirtual 97, 3) := by decide +kernel
theorem dL_law_721 : decode cL_law 721 = .ok (.if_icmp .eq 55, 3) := by decide +kernel
theorem dL_law_724 : decode cL_law 724 = .ok (.iconst 0, 1) := by decide +kernel
theorem dL_law_725 : decode cL_law 725 = .ok (.ireturn, 1) := by decide +kernel
theorem dL_law_726 : decode cL_law 726 = .ok (.aload_n 1, 1) := by decide +kernel
theorem dL_law_727 : decode cL_law 727 = .ok (.invokevirtual 98, 3) := by decide +kernel
theorem dL_law_730 : decode cL_law 730 = .ok (.aload_n 2, 1) := by decide +kernel
theorem dL_law_731 : decode cL_law 731 = .ok (.invokevirtual 101, 3) := by decide +kernel
theorem dL_law_734 : decode cL_law 734 = .ok (.if_icmp .eq 42, 3) := by decide +kernel
theorem dL_law_737 : decode cL_law 737 = .ok (.iconst 0, 1) := by decide +kernel
theorem dL_law_738 : decode cL_law 738 = .ok (.ireturn, 1) := by decide +kernel
theorem dL_law_739 : decode cL_law 739 = .ok (.aload_n 1, 1) := by decide +kernel
theorem dL_law_740 : decode cL_law 740 = .ok (.aload_n 0, 1) := by decide +kernel
theorem dL_law_741 : decode cL_law 741 = .ok (.iload_n 3, 1) := by decide +kernel
theorem dL_law_742 : decode cL_law 742 = .ok (.iconst 1, 1) := by decide +kernel
theorem dL_law_743 : decode cL_law 743 = .ok (.iadd, 1) := by decide +kernel
theorem dL_law_744 : decode cL_law 744 = .ok (.iaload, 1) := by decide +kernel
theorem dL_law_745 : decode cL_law 745 = .ok (.invokevirtual 102, 3) := by decide +kernel
theorem dL_law_748 : decode cL_law 748 = .ok (.aload_n 2, 1) := by decide +kernel
theorem dL_law_749 : decode cL_law 749 = .ok (.aload_n 0, 1) := by decide +kernel
theorem dL_law_750 : decode cL_law 750 = .ok (.iload_n 3, 1) := by decide +kernel
theorem dL_law_751 : decode cL_law 751 = .ok (.iconst 1, 1) := by decide +kernel
theorem dL_law_752 : decode cL_law 752 = .ok (.iadd, 1) := by decide +kernel
theorem dL_law_753 : decode cL_law 753 = .ok (.iaload, 1) := by decide +kernel
theorem dL_law_754 : decode cL_law 754 = .ok (.invokevirtual 105, 3) := by decide +kernel
theorem dL_law_757 : decode cL_law 757 = .ok (.if_icmp .eq 19, 3) := by decide +kernel
theorem dL_law_760 : decode cL_law 760 = .ok (.iconst 0, 1) := by decide +kernel
theorem dL_law_761 : decode cL_law 761 = .ok (.ireturn, 1) := by decide +kernel
theorem dL_law_762 : decode cL_law 762 = .ok (.aload_n 1, 1) := by decide +kernel
theorem dL_law_763 : decode cL_law 763 = .ok (.invokevirtual 106, 3) := by decide +kernel
theorem dL_law_766 : decode cL_law 766 = .ok (.aload_n 2, 1) := by decide +kernel
theorem dL_law_767 : decode cL_law 767 = .ok (.invokevirtual 110, 3) := by decide +kernel
theorem dL_law_770 : decode cL_law 770 = .ok (.lcmp, 1) := by decide +kernel
theorem dL_law_771 : decode cL_law 771 = .ok (.ifCond .eq 5, 3) := by decide +kernel
theorem dL_law_774 : decode cL_law 774 = .ok (.iconst 0, 1) := by decide +kernel
theorem dL_law_775 : decode cL_law 775 = .ok (.ireturn, 1) := by decide +kernel
theorem dL_law_776 : decode cL_law 776 = .ok (.iinc 3 4, 3) := by decide +kernel
theorem dL_law_779 : decode cL_law 779 = .ok (.goto (-761), 3) := by decide +kernel
theorem dL_law_782 : decode cL_law 782 = .ok (.iconst 1, 1) := by decide +kernel
theorem dL_law_783 : decode cL_law 783 = .ok (.ireturn, 1) := by decide +kernel

