def wsL_law0_r1 : List Cond := [Cond.classLink RL 8 RX2, Cond.instantiable RX2 16, Cond.initialized RX2, Cond.classLink RL 105 RX3, Cond.instantiable RX3 19, Cond.initialized RX3, Cond.arrayClass .long, Cond.arrayClass .double, Cond.methodLink RL 104 yX2_init, Cond.instanceMethod yX2_init, Cond.code yX2_init cX2_init 1 none, Cond.methodLink RX2 1 objectInit, Cond.instanceMethod objectInit, Cond.code objectInit ⟨#[0xb1]⟩ 1 none, Cond.classLink RX2 7 RX1, Cond.instantiable RX1 2, Cond.initialized RX1, Cond.fieldLink RX2 14 "FolderKeeper" "heirs" "LFolderKeeper$Row;", Cond.fieldLink RX2 18 "FolderKeeper" "owners" "LFolderKeeper$Row;", Cond.fieldLink RX2 21 "FolderKeeper" "parents" "LFolderKeeper$Row;", Cond.fieldLink RX2 24 "FolderKeeper" "roomGroups" "LFolderKeeper$Row;", Cond.classLink RX2 27 RX0, Cond.instantiable RX0 2, Cond.initialized RX0]
def wsL_law0_r2 : List Cond := [Cond.fieldLink RX2 30 "FolderKeeper" "accountEnds" "LFolderKeeper$Grid;", Cond.fieldLink RX2 34 "FolderKeeper" "groupEnds" "LFolderKeeper$Grid;", Cond.fieldLink RX2 37 "FolderKeeper" "accountShares" "LFolderKeeper$Grid;", Cond.fieldLink RX2 40 "FolderKeeper" "groupShares" "LFolderKeeper$Grid;", Cond.fieldLink RX2 43 "FolderKeeper" "accounts" "I", Cond.fieldLink RX2 47 "FolderKeeper" "activeAccounts" "I", Cond.methodLink RX2 11 yX1_init, Cond.instanceMethod yX1_init, Cond.code yX1_init cX1_init 4 none, Cond.methodLink RX1 1 objectInit, Cond.methodLink RX1 7 Lib.Math.max.name, Cond.static Lib.Math.max.name, Cond.initialized "java/lang/Math", Cond.code Lib.Math.max.name Lib.Math.max.code 2 (some .int), Cond.arrayClass .int, Cond.fieldLink RX1 13 "FolderKeeper$Row" "cells" "[I", Cond.fieldLink RX1 19 "FolderKeeper$Row" "blank" "I", Cond.methodLink RX2 29 yX0_init, Cond.instanceMethod yX0_init, Cond.code yX0_init cX0_init 3 none, Cond.methodLink RX0 1 objectInit, Cond.methodLink RX0 7 Lib.Math.max.name, Cond.fieldLink RX0 13 "FolderKeeper$Grid" "cells" "[I", Cond.fieldLink RX0 19 "FolderKeeper$Grid" "width" "I"]
def wsL_law0_r3 : List Cond := [Cond.methodLink RL 107 yX3_init, Cond.instanceMethod yX3_init, Cond.code yX3_init cX3_init 1 none, Cond.methodLink RX3 1 objectInit, Cond.fieldLink RX3 7 "FolderKeeperModel" "accounts" "I", Cond.arrayClass .boolean, Cond.fieldLink RX3 13 "FolderKeeperModel" "haveLeft" "[Z", Cond.fieldLink RX3 17 "FolderKeeperModel" "heirs" "[I", Cond.fieldLink RX3 21 "FolderKeeperModel" "memberEnds" "[I", Cond.fieldLink RX3 24 "FolderKeeperModel" "nestEnds" "[I", Cond.fieldLink RX3 27 "FolderKeeperModel" "inGroups" "[Z", Cond.fieldLink RX3 30 "FolderKeeperModel" "owners" "[I", Cond.fieldLink RX3 33 "FolderKeeperModel" "parents" "[I", Cond.fieldLink RX3 36 "FolderKeeperModel" "areBroken" "[Z", Cond.fieldLink RX3 39 "FolderKeeperModel" "areHeld" "[Z", Cond.fieldLink RX3 42 "FolderKeeperModel" "shares" "[I", Cond.fieldLink RX3 45 "FolderKeeperModel" "groupShares" "[I", Cond.fieldLink RX3 48 "FolderKeeperModel" "roomGroups" "[I", Cond.fieldLink RX3 51 "FolderKeeperModel" "seen" "[Z", Cond.methodLink RL 108 yL_addAccount, Cond.static yL_addAccount, Cond.initialized RL, Cond.codeWith yL_addAccount cL_addAccount 3 (some .int) [(0, 8, 11, 13)], Cond.classLink RL 13 "java/lang/IllegalStateException"]
def wsL_law0_r4 : List Cond := [Cond.methodLink RL 7 yX2_addAccount, Cond.instanceMethod yX2_addAccount, Cond.selects RX2 yX2_addAccount yX2_addAccount, Cond.code yX2_addAccount cX2_addAccount 2 (some .int), Cond.classLink RX2 50 "java/lang/IllegalStateException", Cond.initialized "java/lang/IllegalStateException", Cond.methodLink RX2 57 yX2_with, Cond.static yX2_with, Cond.code yX2_with cX2_with 2 (some .int), Cond.methodLink RL 113 yX3_addAccount, Cond.instanceMethod yX3_addAccount, Cond.selects RX3 yX3_addAccount yX3_addAccount, Cond.code yX3_addAccount cX3_addAccount 1 (some .int), Cond.methodLink RX3 67 yX3_fails, Cond.instanceMethod yX3_fails, Cond.selects RX3 yX3_fails yX3_fails, Cond.code yX3_fails cX3_fails 2 (some .boolean), Cond.fieldLink RX3 54 "FolderKeeperModel" "code" "I", Cond.methodLink RL 114 yX3_thrown, Cond.instanceMethod yX3_thrown, Cond.selects RX3 yX3_thrown yX3_thrown, Cond.code yX3_thrown cX3_thrown 1 (some .int), Cond.methodLink RL 117 yL_setHeir, Cond.static yL_setHeir]
def wsL_law0_r5 : List Cond := [Cond.codeWith yL_setHeir cL_setHeir 5 (some .int) [(0, 10, 13, 19), (0, 10, 17, 21)], Cond.classLink RL 19 "java/lang/IndexOutOfBoundsException", Cond.classLink RL 21 "java/lang/IllegalArgumentException", Cond.methodLink RL 15 yX2_setHeir, Cond.instanceMethod yX2_setHeir, Cond.selects RX2 yX2_setHeir yX2_setHeir, Cond.code yX2_setHeir cX2_setHeir 4 (some .int), Cond.classLink RX2 65 "java/lang/IllegalArgumentException", Cond.initialized "java/lang/IllegalArgumentException", Cond.methodLink RX2 61 yX2_requireAccount, Cond.instanceMethod yX2_requireAccount, Cond.selects RX2 yX2_requireAccount yX2_requireAccount, Cond.code yX2_requireAccount cX2_requireAccount 2 none, Cond.classLink RX2 204 "java/lang/IndexOutOfBoundsException", Cond.initialized "java/lang/IndexOutOfBoundsException", Cond.methodLink RX2 70 yX1_at, Cond.instanceMethod yX1_at, Cond.selects RX1 yX1_at yX1_at, Cond.code yX1_at cX1_at 2 (some .int), Cond.methodLink RX2 74 yX1_put, Cond.instanceMethod yX1_put, Cond.selects RX1 yX1_put yX1_put, Cond.code yX1_put cX1_put 3 none, Cond.methodLink RL 120 yX3_setHeir]
def wsL_law0_r6 : List Cond := [Cond.instanceMethod yX3_setHeir, Cond.selects RX3 yX3_setHeir yX3_setHeir, Cond.code yX3_setHeir cX3_setHeir 4 (some .int), Cond.methodLink RX3 71 yX3_isNoAccount, Cond.instanceMethod yX3_isNoAccount, Cond.selects RX3 yX3_isNoAccount yX3_isNoAccount, Cond.code yX3_isNoAccount cX3_isNoAccount 2 (some .boolean), Cond.methodLink RX3 57 yX3_in, Cond.static yX3_in, Cond.code yX3_in cX3_in 3 (some .boolean), Cond.methodLink RL 121 yL_addGroup, Cond.static yL_addGroup, Cond.codeWith yL_addGroup cL_addGroup 3 (some .int) [(0, 8, 11, 13)], Cond.methodLink RL 23 yX2_addGroup, Cond.instanceMethod yX2_addGroup, Cond.selects RX2 yX2_addGroup yX2_addGroup, Cond.code yX2_addGroup cX2_addGroup 2 (some .int), Cond.fieldLink RX2 77 "FolderKeeper" "groups" "I", Cond.methodLink RL 123 yX3_addGroup, Cond.instanceMethod yX3_addGroup, Cond.selects RX3 yX3_addGroup yX3_addGroup, Cond.code yX3_addGroup cX3_addGroup 1 (some .int), Cond.fieldLink RX3 61 "FolderKeeperModel" "groups" "I", Cond.methodLink RL 124 yL_join]
def wsL_law0_r7 : List Cond := [Cond.static yL_join, Cond.codeWith yL_join cL_join 6 (some .int) [(0, 12, 15, 19), (0, 12, 19, 21), (0, 12, 23, 30)], Cond.classLink RL 30 "java/lang/UnsupportedOperationException", Cond.methodLink RL 26 yX2_join, Cond.instanceMethod yX2_join, Cond.selects RX2 yX2_join yX2_join, Cond.code yX2_join cX2_join 4 (some .int), Cond.classLink RX2 92 "java/lang/UnsupportedOperationException", Cond.initialized "java/lang/UnsupportedOperationException", Cond.methodLink RX2 82 yX2_requireGroup, Cond.instanceMethod yX2_requireGroup, Cond.selects RX2 yX2_requireGroup yX2_requireGroup, Cond.code yX2_requireGroup cX2_requireGroup 2 none, Cond.methodLink RX2 85 yX2_requireEnd, Cond.instanceMethod yX2_requireEnd, Cond.selects RX2 yX2_requireEnd yX2_requireEnd, Cond.code yX2_requireEnd cX2_requireEnd 2 none, Cond.fieldLink RX2 185 "FolderKeeper" "today" "I", Cond.methodLink RX2 88 yX2_isActive, Cond.instanceMethod yX2_isActive, Cond.selects RX2 yX2_isActive yX2_isActive, Cond.code yX2_isActive cX2_isActive 2 (some .boolean), Cond.methodLink RX2 106 yX2_contains, Cond.static yX2_contains]
def wsL_law0_r8 : List Cond := [Cond.code yX2_contains cX2_contains 2 (some .boolean), Cond.methodLink RX2 97 yX0_put, Cond.instanceMethod yX0_put, Cond.selects RX0 yX0_put yX0_put, Cond.code yX0_put cX0_put 5 none, Cond.methodLink RX2 100 yX0_filled, Cond.instanceMethod yX0_filled, Cond.selects RX0 yX0_filled yX0_filled, Cond.code yX0_filled cX0_filled 4 (some .int), Cond.methodLink RX0 23 yX0_at, Cond.instanceMethod yX0_at, Cond.selects RX0 yX0_at yX0_at, Cond.code yX0_at cX0_at 4 (some .int), Cond.methodLink RL 127 yX3_join, Cond.instanceMethod yX3_join, Cond.selects RX3 yX3_join yX3_join, Cond.code yX3_join cX3_join 4 (some .int), Cond.methodLink RX3 77 yX3_isNoGroup, Cond.instanceMethod yX3_isNoGroup, Cond.selects RX3 yX3_isNoGroup yX3_isNoGroup, Cond.code yX3_isNoGroup cX3_isNoGroup 2 (some .boolean), Cond.methodLink RX3 80 yX3_isNoEnd, Cond.instanceMethod yX3_isNoEnd, Cond.selects RX3 yX3_isNoEnd yX3_isNoEnd]
def wsL_law0_r9 : List Cond := [Cond.code yX3_isNoEnd cX3_isNoEnd 2 (some .boolean), Cond.fieldLink RX3 74 "FolderKeeperModel" "day" "I", Cond.methodLink RX3 83 yX3_membersOf, Cond.instanceMethod yX3_membersOf, Cond.selects RX3 yX3_membersOf yX3_membersOf, Cond.code yX3_membersOf cX3_membersOf 4 (some .int), Cond.methodLink RL 128 yL_nest, Cond.static yL_nest, Cond.codeWith yL_nest cL_nest 6 (some .int) [(0, 12, 15, 19), (0, 12, 19, 21), (0, 12, 23, 30)], Cond.methodLink RL 32 yX2_nest, Cond.instanceMethod yX2_nest, Cond.selects RX2 yX2_nest yX2_nest, Cond.code yX2_nest cX2_nest 4 (some .int), Cond.methodLink RX2 103 yX2_andAllAround, Cond.instanceMethod yX2_andAllAround, Cond.selects RX2 yX2_andAllAround yX2_andAllAround, Cond.code yX2_andAllAround cX2_andAllAround 6 (some .int), Cond.methodLink RX2 223 yX2_groupsNextAround, Cond.instanceMethod yX2_groupsNextAround, Cond.selects RX2 yX2_groupsNextAround yX2_groupsNextAround, Cond.code yX2_groupsNextAround cX2_groupsNextAround 4 (some .int), Cond.methodLink RX2 226 yX2_isNested, Cond.instanceMethod yX2_isNested, Cond.selects RX2 yX2_isNested yX2_isNested]
def wsL_law0_r10 : List Cond := [Cond.code yX2_isNested cX2_isNested 3 (some .boolean), Cond.methodLink RX2 221 yX0_at, Cond.methodLink RL 130 yX3_nest, Cond.instanceMethod yX3_nest, Cond.selects RX3 yX3_nest yX3_nest, Cond.code yX3_nest cX3_nest 6 (some .int), Cond.methodLink RX3 91 yX3_leads, Cond.instanceMethod yX3_leads, Cond.selects RX3 yX3_leads yX3_leads, Cond.code yX3_leads cX3_leads 4 (some .boolean), Cond.methodLink RX3 87 yX3_isNested, Cond.instanceMethod yX3_isNested, Cond.selects RX3 yX3_isNested yX3_isNested, Cond.code yX3_isNested cX3_isNested 3 (some .boolean), Cond.methodLink RL 131 yL_drop, Cond.static yL_drop, Cond.codeWith yL_drop cL_drop 5 (some .int) [(0, 10, 13, 19), (0, 10, 17, 38)], Cond.classLink RL 38 "java/util/NoSuchElementException", Cond.methodLink RL 35 yX2_drop, Cond.instanceMethod yX2_drop, Cond.selects RX2 yX2_drop yX2_drop, Cond.code yX2_drop cX2_drop 3 (some .int), Cond.classLink RX2 115 "java/util/NoSuchElementException", Cond.initialized "java/util/NoSuchElementException"]
def wsL_law0_r11 : List Cond := [Cond.methodLink RX2 112 yX2_isMember, Cond.instanceMethod yX2_isMember, Cond.selects RX2 yX2_isMember yX2_isMember, Cond.code yX2_isMember cX2_isMember 3 (some .boolean), Cond.methodLink RL 133 yX3_drop, Cond.instanceMethod yX3_drop, Cond.selects RX3 yX3_drop yX3_drop, Cond.code yX3_drop cX3_drop 3 (some .int), Cond.methodLink RL 134 yL_isIn, Cond.static yL_isIn, Cond.codeWith yL_isIn cL_isIn 5 (some .int) [(0, 17, 20, 19)], Cond.methodLink RL 40 yX2_isIn, Cond.instanceMethod yX2_isIn, Cond.selects RX2 yX2_isIn yX2_isIn, Cond.code yX2_isIn cX2_isIn 3 (some .boolean), Cond.methodLink RX2 120 yX2_groupsOf, Cond.instanceMethod yX2_groupsOf, Cond.selects RX2 yX2_groupsOf yX2_groupsOf, Cond.code yX2_groupsOf cX2_groupsOf 4 (some .int), Cond.methodLink RL 136 yX3_isIn, Cond.instanceMethod yX3_isIn, Cond.selects RX3 yX3_isIn yX3_isIn, Cond.code yX3_isIn cX3_isIn 3 (some .boolean), Cond.methodLink RX3 94 yX3_isMember]
def wsL_law0_r12 : List Cond := [Cond.instanceMethod yX3_isMember, Cond.selects RX3 yX3_isMember yX3_isMember, Cond.code yX3_isMember cX3_isMember 4 (some .boolean), Cond.methodLink RL 137 yX2_memberships, Cond.instanceMethod yX2_memberships, Cond.selects RX2 yX2_memberships yX2_memberships, Cond.code yX2_memberships cX2_memberships 3 (some .int), Cond.methodLink RL 140 yX3_memberships, Cond.instanceMethod yX3_memberships, Cond.selects RX3 yX3_memberships yX3_memberships, Cond.code yX3_memberships cX3_memberships 3 (some .int), Cond.methodLink RL 141 yL_addFolder, Cond.static yL_addFolder, Cond.codeWith yL_addFolder cL_addFolder 5 (some .int) [(0, 10, 13, 19), (0, 10, 17, 30), (0, 10, 21, 13)], Cond.methodLink RL 44 yX2_addFolder, Cond.instanceMethod yX2_addFolder, Cond.selects RX2 yX2_addFolder yX2_addFolder, Cond.code yX2_addFolder cX2_addFolder 4 (some .int), Cond.fieldLink RX2 126 "FolderKeeper" "folders" "I", Cond.methodLink RX2 123 yX2_requireFolder, Cond.instanceMethod yX2_requireFolder, Cond.selects RX2 yX2_requireFolder yX2_requireFolder, Cond.code yX2_requireFolder cX2_requireFolder 2 none, Cond.methodLink RL 143 yX3_addFolder]
def wsL_law0_r13 : List Cond := [Cond.instanceMethod yX3_addFolder, Cond.selects RX3 yX3_addFolder yX3_addFolder, Cond.code yX3_addFolder cX3_addFolder 3 (some .int), Cond.fieldLink RX3 64 "FolderKeeperModel" "folders" "I", Cond.methodLink RX3 97 yX3_isNoFolder, Cond.instanceMethod yX3_isNoFolder, Cond.selects RX3 yX3_isNoFolder yX3_isNoFolder, Cond.code yX3_isNoFolder cX3_isNoFolder 2 (some .boolean), Cond.methodLink RL 144 yL_shareWith, Cond.static yL_shareWith, Cond.codeWith yL_shareWith cL_shareWith 6 (some .int) [(0, 12, 15, 19), (0, 12, 19, 21), (0, 12, 23, 13)], Cond.methodLink RL 47 yX2_shareWith, Cond.instanceMethod yX2_shareWith, Cond.selects RX2 yX2_shareWith yX2_shareWith, Cond.code yX2_shareWith cX2_shareWith 4 (some .int), Cond.methodLink RX2 131 yX2_requireRight, Cond.static yX2_requireRight, Cond.code yX2_requireRight cX2_requireRight 3 none, Cond.methodLink RX2 134 yX2_requireNotHeld, Cond.instanceMethod yX2_requireNotHeld, Cond.selects RX2 yX2_requireNotHeld yX2_requireNotHeld, Cond.code yX2_requireNotHeld cX2_requireNotHeld 2 none, Cond.methodLink RX2 180 yX2_isHeld, Cond.instanceMethod yX2_isHeld]
def wsL_law0_r14 : List Cond := [Cond.selects RX2 yX2_isHeld yX2_isHeld, Cond.code yX2_isHeld cX2_isHeld 2 (some .boolean), Cond.fieldLink RX2 172 "FolderKeeper" "heldFolders" "I", Cond.methodLink RX2 137 yX2_sharesOf, Cond.instanceMethod yX2_sharesOf, Cond.selects RX2 yX2_sharesOf yX2_sharesOf, Cond.code yX2_sharesOf cX2_sharesOf 2 (some .int), Cond.methodLink RL 146 yX3_shareWith, Cond.instanceMethod yX3_shareWith, Cond.selects RX3 yX3_shareWith yX3_shareWith, Cond.code yX3_shareWith cX3_shareWith 4 (some .int), Cond.methodLink RX3 100 yX3_isKept, Cond.instanceMethod yX3_isKept, Cond.selects RX3 yX3_isKept yX3_isKept, Cond.code yX3_isKept cX3_isKept 4 (some .boolean), Cond.methodLink RX3 104 yX3_sharesOf, Cond.instanceMethod yX3_sharesOf, Cond.selects RX3 yX3_sharesOf yX3_sharesOf, Cond.code yX3_sharesOf cX3_sharesOf 4 (some .int), Cond.methodLink RL 147 yL_shareWithGroup, Cond.static yL_shareWithGroup, Cond.codeWith yL_shareWithGroup cL_shareWithGroup 6 (some .int) [(0, 12, 15, 19), (0, 12, 19, 21), (0, 12, 23, 13)], Cond.methodLink RL 50 yX2_shareWithGroup, Cond.instanceMethod yX2_shareWithGroup]
def wsL_law0_r15 : List Cond := [Cond.selects RX2 yX2_shareWithGroup yX2_shareWithGroup, Cond.code yX2_shareWithGroup cX2_shareWithGroup 4 (some .int), Cond.methodLink RL 149 yX3_shareWithGroup, Cond.instanceMethod yX3_shareWithGroup, Cond.selects RX3 yX3_shareWithGroup yX3_shareWithGroup, Cond.code yX3_shareWithGroup cX3_shareWithGroup 4 (some .int), Cond.methodLink RL 150 yL_setBroken, Cond.static yL_setBroken, Cond.codeWith yL_setBroken cL_setBroken 5 (some .int) [(0, 17, 20, 19), (0, 17, 24, 13)], Cond.methodLink RL 53 yX2_setBroken, Cond.instanceMethod yX2_setBroken, Cond.selects RX2 yX2_setBroken yX2_setBroken, Cond.code yX2_setBroken cX2_setBroken 4 (some .boolean), Cond.fieldLink RX2 140 "FolderKeeper" "brokenFolders" "I", Cond.methodLink RX2 143 yX2_without, Cond.static yX2_without, Cond.code yX2_without cX2_without 2 (some .int), Cond.methodLink RL 153 yX3_setBroken, Cond.instanceMethod yX3_setBroken, Cond.selects RX3 yX3_setBroken yX3_setBroken, Cond.code yX3_setBroken cX3_setBroken 4 (some .boolean), Cond.methodLink RL 154 yL_owner, Cond.static yL_owner, Cond.codeWith yL_owner cL_owner 4 (some .int) [(0, 9, 12, 19)]]
def wsL_law0_r16 : List Cond := [Cond.methodLink RL 57 yX2_owner, Cond.instanceMethod yX2_owner, Cond.selects RX2 yX2_owner yX2_owner, Cond.code yX2_owner cX2_owner 2 (some .int), Cond.methodLink RL 157 yX3_owner, Cond.instanceMethod yX3_owner, Cond.selects RX3 yX3_owner yX3_owner, Cond.code yX3_owner cX3_owner 2 (some .int), Cond.methodLink RL 158 yL_right, Cond.static yL_right, Cond.codeWith yL_right cL_right 5 (some .int) [(0, 10, 13, 19)], Cond.methodLink RL 61 yX2_right, Cond.instanceMethod yX2_right, Cond.selects RX2 yX2_right yX2_right, Cond.code yX2_right cX2_right 3 (some .int), Cond.methodLink RX2 146 yX2_rightAmong, Cond.instanceMethod yX2_rightAmong, Cond.selects RX2 yX2_rightAmong yX2_rightAmong, Cond.code yX2_rightAmong cX2_rightAmong 7 (some .int), Cond.methodLink RX2 236 Lib.Math.max.name, Cond.methodLink RX2 233 yX2_bestShareAmong, Cond.instanceMethod yX2_bestShareAmong, Cond.selects RX2 yX2_bestShareAmong yX2_bestShareAmong, Cond.code yX2_bestShareAmong cX2_bestShareAmong 6 (some .int)]
def wsL_law0_r17 : List Cond := [Cond.methodLink RX2 241 yX2_giverTo, Cond.instanceMethod yX2_giverTo, Cond.selects RX2 yX2_giverTo yX2_giverTo, Cond.code yX2_giverTo cX2_giverTo 2 (some .int), Cond.methodLink RL 160 yX3_right, Cond.instanceMethod yX3_right, Cond.selects RX3 yX3_right yX3_right, Cond.code yX3_right cX3_right 3 (some .int), Cond.methodLink RX3 111 yX3_asked, Cond.instanceMethod yX3_asked, Cond.selects RX3 yX3_asked yX3_asked, Cond.code yX3_asked cX3_asked 3 (some .int), Cond.methodLink RX3 107 yX3_rightOf, Cond.instanceMethod yX3_rightOf, Cond.selects RX3 yX3_rightOf yX3_rightOf, Cond.code yX3_rightOf cX3_rightOf 7 (some .int), Cond.methodLink RL 161 yL_rightByWalking, Cond.static yL_rightByWalking, Cond.codeWith yL_rightByWalking cL_rightByWalking 5 (some .int) [(0, 10, 13, 19)], Cond.methodLink RL 64 yX2_rightByWalking, Cond.instanceMethod yX2_rightByWalking, Cond.selects RX2 yX2_rightByWalking yX2_rightByWalking, Cond.code yX2_rightByWalking cX2_rightByWalking 3 (some .int), Cond.methodLink RX2 150 yX2_bestHandedByWalking]
def wsL_law0_r18 : List Cond := [Cond.instanceMethod yX2_bestHandedByWalking, Cond.selects RX2 yX2_bestHandedByWalking yX2_bestHandedByWalking, Cond.code yX2_bestHandedByWalking cX2_bestHandedByWalking 5 (some .int), Cond.methodLink RX2 244 yX2_bestShareByWalking, Cond.instanceMethod yX2_bestShareByWalking, Cond.selects RX2 yX2_bestShareByWalking yX2_bestShareByWalking, Cond.code yX2_bestShareByWalking cX2_bestShareByWalking 6 (some .int), Cond.methodLink RX2 229 yX2_leadsTo, Cond.instanceMethod yX2_leadsTo, Cond.selects RX2 yX2_leadsTo yX2_leadsTo, Cond.code yX2_leadsTo cX2_leadsTo 5 (some .boolean), Cond.methodLink RL 163 yX3_rightByWalking, Cond.instanceMethod yX3_rightByWalking, Cond.selects RX3 yX3_rightByWalking yX3_rightByWalking, Cond.code yX3_rightByWalking cX3_rightByWalking 3 (some .int), Cond.methodLink RL 164 yL_holders, Cond.static yL_holders, Cond.codeWith yL_holders cL_holders 5 (some .int) [(0, 10, 13, 19), (0, 10, 17, 21)], Cond.methodLink RL 67 yX2_holders, Cond.instanceMethod yX2_holders, Cond.selects RX2 yX2_holders yX2_holders, Cond.code yX2_holders cX2_holders 5 (some .int), Cond.methodLink RL 166 yX3_holders, Cond.instanceMethod yX3_holders]
def wsL_law0_r19 : List Cond := [Cond.selects RX3 yX3_holders yX3_holders, Cond.code yX3_holders cX3_holders 5 (some .int), Cond.methodLink RL 167 yL_addRoom, Cond.static yL_addRoom, Cond.codeWith yL_addRoom cL_addRoom 4 (some .int) [(0, 9, 12, 19), (0, 9, 15, 13)], Cond.methodLink RL 70 yX2_addRoom, Cond.instanceMethod yX2_addRoom, Cond.selects RX2 yX2_addRoom yX2_addRoom, Cond.code yX2_addRoom cX2_addRoom 3 (some .int), Cond.fieldLink RX2 153 "FolderKeeper" "rooms" "I", Cond.methodLink RL 169 yX3_addRoom, Cond.instanceMethod yX3_addRoom, Cond.selects RX3 yX3_addRoom yX3_addRoom, Cond.code yX3_addRoom cX3_addRoom 2 (some .int), Cond.fieldLink RX3 114 "FolderKeeperModel" "rooms" "I", Cond.methodLink RL 170 yL_reads, Cond.static yL_reads, Cond.codeWith yL_reads cL_reads 5 (some .int) [(0, 17, 20, 19)], Cond.methodLink RL 73 yX2_reads, Cond.instanceMethod yX2_reads, Cond.selects RX2 yX2_reads yX2_reads, Cond.code yX2_reads cX2_reads 4 (some .boolean), Cond.methodLink RX2 158 yX2_requireRoom, Cond.instanceMethod yX2_requireRoom]
def wsL_law0_r20 : List Cond := [Cond.selects RX2 yX2_requireRoom yX2_requireRoom, Cond.code yX2_requireRoom cX2_requireRoom 2 none, Cond.methodLink RX2 161 yX2_activeIn, Cond.instanceMethod yX2_activeIn, Cond.selects RX2 yX2_activeIn yX2_activeIn, Cond.code yX2_activeIn cX2_activeIn 4 (some .int), Cond.methodLink RL 172 yX3_reads, Cond.instanceMethod yX3_reads, Cond.selects RX3 yX3_reads yX3_reads, Cond.code yX3_reads cX3_reads 3 (some .boolean), Cond.methodLink RX3 117 yX3_isNoRoom, Cond.instanceMethod yX3_isNoRoom, Cond.selects RX3 yX3_isNoRoom yX3_isNoRoom, Cond.code yX3_isNoRoom cX3_isNoRoom 2 (some .boolean), Cond.methodLink RX3 120 yX3_inside, Cond.instanceMethod yX3_inside, Cond.selects RX3 yX3_inside yX3_inside, Cond.code yX3_inside cX3_inside 4 (some .int), Cond.methodLink RL 173 yL_readers, Cond.static yL_readers, Cond.codeWith yL_readers cL_readers 4 (some .int) [(0, 9, 12, 19)], Cond.methodLink RL 76 yX2_readers, Cond.instanceMethod yX2_readers, Cond.selects RX2 yX2_readers yX2_readers]
def wsL_law0_r21 : List Cond := [Cond.code yX2_readers cX2_readers 3 (some .int), Cond.methodLink RL 175 yX3_readers, Cond.instanceMethod yX3_readers, Cond.selects RX3 yX3_readers yX3_readers, Cond.code yX3_readers cX3_readers 2 (some .int), Cond.methodLink RL 176 yL_keeper, Cond.static yL_keeper, Cond.codeWith yL_keeper cL_keeper 4 (some .int) [(0, 9, 12, 19)], Cond.methodLink RL 79 yX2_keeper, Cond.instanceMethod yX2_keeper, Cond.selects RX2 yX2_keeper yX2_keeper, Cond.code yX2_keeper cX2_keeper 2 (some .int), Cond.methodLink RX2 164 yX2_keeperAfterLeaving, Cond.instanceMethod yX2_keeperAfterLeaving, Cond.selects RX2 yX2_keeperAfterLeaving yX2_keeperAfterLeaving, Cond.code yX2_keeperAfterLeaving cX2_keeperAfterLeaving 4 (some .int), Cond.methodLink RX2 250 yX2_firstActiveHeir, Cond.instanceMethod yX2_firstActiveHeir, Cond.selects RX2 yX2_firstActiveHeir yX2_firstActiveHeir, Cond.code yX2_firstActiveHeir cX2_firstActiveHeir 4 (some .int), Cond.methodLink RX2 253 yX2_ownerAbove, Cond.instanceMethod yX2_ownerAbove, Cond.selects RX2 yX2_ownerAbove yX2_ownerAbove, Cond.code yX2_ownerAbove cX2_ownerAbove 5 (some .int)]
def wsL_law0_r22 : List Cond := [Cond.methodLink RX2 247 yX2_isHandedOverBy, Cond.instanceMethod yX2_isHandedOverBy, Cond.selects RX2 yX2_isHandedOverBy yX2_isHandedOverBy, Cond.code yX2_isHandedOverBy cX2_isHandedOverBy 3 (some .boolean), Cond.methodLink RL 178 yX3_keeper, Cond.instanceMethod yX3_keeper, Cond.selects RX3 yX3_keeper yX3_keeper, Cond.code yX3_keeper cX3_keeper 2 (some .int), Cond.methodLink RX3 126 yX3_keeperOf, Cond.instanceMethod yX3_keeperOf, Cond.selects RX3 yX3_keeperOf yX3_keeperOf, Cond.code yX3_keeperOf cX3_keeperOf 4 (some .int), Cond.methodLink RX3 123 yX3_heirOf, Cond.instanceMethod yX3_heirOf, Cond.selects RX3 yX3_heirOf yX3_heirOf, Cond.code yX3_heirOf cX3_heirOf 3 (some .int), Cond.methodLink RL 179 yL_leave, Cond.static yL_leave, Cond.codeWith yL_leave cL_leave 4 (some .int) [(0, 9, 12, 19), (0, 9, 15, 30), (0, 9, 18, 13)], Cond.methodLink RL 82 yX2_leave, Cond.instanceMethod yX2_leave, Cond.selects RX2 yX2_leave yX2_leave, Cond.code yX2_leave cX2_leave 2 (some .int), Cond.methodLink RX2 169 yX2_handOverFoldersOf]
def wsL_law0_r23 : List Cond := [Cond.instanceMethod yX2_handOverFoldersOf, Cond.selects RX2 yX2_handOverFoldersOf yX2_handOverFoldersOf, Cond.code yX2_handOverFoldersOf cX2_handOverFoldersOf 4 (some .int), Cond.methodLink RL 181 yX3_leave, Cond.instanceMethod yX3_leave, Cond.selects RX3 yX3_leave yX3_leave, Cond.code yX3_leave cX3_leave 4 (some .int), Cond.methodLink RL 182 yL_hold, Cond.static yL_hold, Cond.codeWith yL_hold cL_hold 4 (some .int) [(0, 9, 12, 19), (0, 9, 15, 13)], Cond.methodLink RL 85 yX2_hold, Cond.instanceMethod yX2_hold, Cond.selects RX2 yX2_hold yX2_hold, Cond.code yX2_hold cX2_hold 2 (some .int), Cond.methodLink RX2 175 yJ6_bitCount_0f7a4, Cond.static yJ6_bitCount_0f7a4, Cond.initialized RJ6, Cond.code yJ6_bitCount_0f7a4 cJ6_bitCount_0f7a4 1 (some .int), Cond.constant RJ6 265 (1431655765), Cond.constant RJ6 266 (858993459), Cond.constant RJ6 267 (252645135), Cond.methodLink RL 184 yX3_hold, Cond.instanceMethod yX3_hold, Cond.selects RX3 yX3_hold yX3_hold]
def wsL_law0_r24 : List Cond := [Cond.code yX3_hold cX3_hold 2 (some .int), Cond.methodLink RX3 129 yX3_held, Cond.instanceMethod yX3_held, Cond.selects RX3 yX3_held yX3_held, Cond.code yX3_held cX3_held 3 (some .int), Cond.methodLink RL 185 yL_release, Cond.static yL_release, Cond.codeWith yL_release cL_release 4 (some .int) [(0, 9, 12, 19), (0, 9, 15, 13)], Cond.methodLink RL 88 yX2_release, Cond.instanceMethod yX2_release, Cond.selects RX2 yX2_release yX2_release, Cond.code yX2_release cX2_release 2 (some .int), Cond.methodLink RL 187 yX3_release, Cond.instanceMethod yX3_release, Cond.selects RX3 yX3_release yX3_release, Cond.code yX3_release cX3_release 2 (some .int), Cond.methodLink RL 188 yL_pass, Cond.static yL_pass, Cond.codeWith yL_pass cL_pass 4 (some .int) [(0, 9, 12, 21)], Cond.methodLink RL 91 yX2_pass, Cond.instanceMethod yX2_pass, Cond.selects RX2 yX2_pass yX2_pass, Cond.code yX2_pass cX2_pass 2 (some .int), Cond.methodLink RX2 190 yX0_clearUpTo]
def wsL_law0_r25 : List Cond := [Cond.instanceMethod yX0_clearUpTo, Cond.selects RX0 yX0_clearUpTo yX0_clearUpTo, Cond.code yX0_clearUpTo cX0_clearUpTo 4 (some .int), Cond.methodLink RL 190 yX3_pass, Cond.instanceMethod yX3_pass, Cond.selects RX3 yX3_pass yX3_pass, Cond.code yX3_pass cX3_pass 4 (some .int), Cond.methodLink RL 191 yX2_day, Cond.instanceMethod yX2_day, Cond.selects RX2 yX2_day yX2_day, Cond.code yX2_day cX2_day 1 (some .int), Cond.methodLink RL 194 yX3_day, Cond.instanceMethod yX3_day, Cond.selects RX3 yX3_day yX3_day, Cond.code yX3_day cX3_day 1 (some .int), Cond.methodLink RX3 133 yX3_tells, Cond.instanceMethod yX3_tells, Cond.selects RX3 yX3_tells yX3_tells, Cond.code yX3_tells cX3_tells 2 (some .int), Cond.methodLink RL 195 yX2_active, Cond.instanceMethod yX2_active, Cond.selects RX2 yX2_active yX2_active, Cond.code yX2_active cX2_active 1 (some .int), Cond.methodLink RL 198 yX3_active]
def wsL_law0_r26 : List Cond := [Cond.instanceMethod yX3_active, Cond.selects RX3 yX3_active yX3_active, Cond.code yX3_active cX3_active 1 (some .int), Cond.methodLink RX3 136 yX3_actives, Cond.instanceMethod yX3_actives, Cond.selects RX3 yX3_actives yX3_actives, Cond.code yX3_actives cX3_actives 3 (some .int), Cond.methodLink RL 199 yL_openShare, Cond.static yL_openShare, Cond.codeWith yL_openShare cL_openShare 3 (some .int) [(0, 8, 11, 98)], Cond.classLink RL 98 "java/lang/ArithmeticException", Cond.methodLink RL 94 yX2_openShare, Cond.instanceMethod yX2_openShare, Cond.selects RX2 yX2_openShare yX2_openShare, Cond.code yX2_openShare cX2_openShare 2 (some .float), Cond.classLink RX2 193 "java/lang/ArithmeticException", Cond.initialized "java/lang/ArithmeticException", Cond.methodLink RX2 198 yX2_openPairs, Cond.instanceMethod yX2_openPairs, Cond.selects RX2 yX2_openPairs yX2_openPairs, Cond.code yX2_openPairs cX2_openPairs 5 (some .int), Cond.methodLink RL 202 yX3_openShare, Cond.instanceMethod yX3_openShare, Cond.selects RX3 yX3_openShare yX3_openShare]
def wsL_law0_r27 : List Cond := [Cond.code yX3_openShare cX3_openShare 4 (some .float), Cond.methodLink RL 203 yL_meanOwned, Cond.static yL_meanOwned, Cond.codeWith yL_meanOwned cL_meanOwned 3 (some .int) [(0, 7, 10, 98)], Cond.methodLink RL 100 yX2_meanOwned, Cond.instanceMethod yX2_meanOwned, Cond.selects RX2 yX2_meanOwned yX2_meanOwned, Cond.code yX2_meanOwned cX2_meanOwned 5 (some .double), Cond.methodLink RL 205 yX3_meanOwned, Cond.instanceMethod yX3_meanOwned, Cond.selects RX3 yX3_meanOwned yX3_meanOwned, Cond.code yX3_meanOwned cX3_meanOwned 6 (some .double)]
def wsL_law0 : List Cond := (wsL_law0_r1 ++ (wsL_law0_r2 ++ (wsL_law0_r3 ++ (wsL_law0_r4 ++ (wsL_law0_r5 ++ (wsL_law0_r6 ++ (wsL_law0_r7 ++ (wsL_law0_r8 ++ (wsL_law0_r9 ++ (wsL_law0_r10 ++ (wsL_law0_r11 ++ (wsL_law0_r12 ++ (wsL_law0_r13 ++ (wsL_law0_r14 ++ (wsL_law0_r15 ++ (wsL_law0_r16 ++ (wsL_law0_r17 ++ (wsL_law0_r18 ++ (wsL_law0_r19 ++ (wsL_law0_r20 ++ (wsL_law0_r21 ++ (wsL_law0_r22 ++ (wsL_law0_r23 ++ (wsL_law0_r24 ++ (wsL_law0_r25 ++ (wsL_law0_r26 ++ wsL_law0_r27)))))))))))))))))))))))))) ++ wsX20 ++ wsX30 ++ wsX10 ++ wsX00 ++ ([] : List Cond)
def wsL_law : List Cond := wsL_law0 ++ (vx_atM "java/lang/ArrayIndexOutOfBoundsException" ["java/lang/IndexOutOfBoundsException", "java/lang/RuntimeException", "java/lang/Exception"]).filter goodWord ++ (vx_atS RX2 54 "java/lang/IllegalStateException" ["java/lang/RuntimeException", "java/lang/Exception"]).filter goodWord ++ (vx_atS RX2 69 "java/lang/IllegalArgumentException" ["java/lang/RuntimeException", "java/lang/Exception"]).filter goodWord ++ (vx_atS RX2 208 "java/lang/IndexOutOfBoundsException" ["java/lang/RuntimeException", "java/lang/Exception"]).filter goodWord ++ (vx_atS RX2 96 "java/lang/UnsupportedOperationException" ["java/lang/RuntimeException", "java/lang/Exception"]).filter goodWord ++ nseAt.filter goodWord ++ (vx_atS RX2 197 "java/lang/ArithmeticException" ["java/lang/RuntimeException", "java/lang/Exception"]).filter goodWord
theorem dJx00060_init_a7421_0 : decode cJx00060_init_a7421 0 = .ok (.aload_n 0, 1) := by decide +kernel
theorem dJx00060_init_a7421_1 : decode cJx00060_init_a7421 1 = .ok (.aload_n 1, 1) := by decide +kernel
theorem dJx00060_init_a7421_2 : decode cJx00060_init_a7421 2 = .ok (.invokespecial 7, 3) := by decide +kernel
theorem dJx00060_init_a7421_5 : decode cJx00060_init_a7421 5 = .ok (.return_, 1) := by decide +kernel
theorem dJ6_bitCount_0f7a4_0 : decode cJ6_bitCount_0f7a4 0 = .ok (.iload_n 0, 1) := by decide +kernel
theorem dJ6_bitCount_0f7a4_1 : decode cJ6_bitCount_0f7a4 1 = .ok (.iload_n 0, 1) := by decide +kernel
theorem dJ6_bitCount_0f7a4_2 : decode cJ6_bitCount_0f7a4 2 = .ok (.iconst 1, 1) := by decide +kernel
theorem dJ6_bitCount_0f7a4_3 : decode cJ6_bitCount_0f7a4 3 = .ok (.iushr, 1) := by decide +kernel
theorem dJ6_bitCount_0f7a4_4 : decode cJ6_bitCount_0f7a4 4 = .ok (.ldc_w 265, 3) := by decide +kernel
theorem dJ6_bitCount_0f7a4_7 : decode cJ6_bitCount_0f7a4 7 = .ok (.iand, 1) := by decide +kernel
theorem dJ6_bitCount_0f7a4_8 : decode cJ6_bitCount_0f7a4 8 = .ok (.isub, 1) := by decide +kernel
theorem dJ6_bitCount_0f7a4_9 : decode cJ6_bitCount_0f7a4 9 = .ok (.istore_n 0, 1) := by decide +kernel
theorem dJ6_bitCount_0f7a4_10 : decode cJ6_bitCount_0f7a4 10 = .ok (.iload_n 0, 1) := by decide +kernel
theorem dJ6_bitCount_0f7a4_11 : decode cJ6_bitCount_0f7a4 11 = .ok (.ldc_w 266, 3) := by decide +kernel
theorem dJ6_bitCount_0f7a4_14 : decode cJ6_bitCount_0f7a4 14 = .ok (.iand, 1) := by decide +kernel
theorem dJ6_bitCount_0f7a4_15 : decode cJ6_bitCount_0f7a4 15 = .ok (.iload_n 0, 1) := by decide +kernel
theorem dJ6_bitCount_0f7a4_16 : decode cJ6_bitCount_0f7a4 16 = .ok (.iconst 2, 1) := by decide +kernel
theorem dJ6_bitCount_0f7a4_17 : decode cJ6_bitCount_0f7a4 17 = .ok (.iushr, 1) := by decide +kernel
theorem dJ6_bitCount_0f7a4_18 : decode cJ6_bitCount_0f7a4 18 = .ok (.ldc_w 266, 3) := by decide +kernel
theorem dJ6_bitCount_0f7a4_21 : decode cJ6_bitCount_0f7a4 21 = .ok (.iand, 1) := by decide +kernel
theorem dJ6_bitCount_0f7a4_22 : decode cJ6_bitCount_0f7a4 22 = .ok (.iadd, 1) := by decide +kernel
theorem dJ6_bitCount_0f7a4_23 : decode cJ6_bitCount_0f7a4 23 = .ok (.istore_n 0, 1) := by decide +kernel
theorem dJ6_bitCount_0f7a4_24 : decode cJ6_bitCount_0f7a4 24 = .ok (.iload_n 0, 1) := by decide +kernel
theorem dJ6_bitCount_0f7a4_25 : decode cJ6_bitCount_0f7a4 25 = .ok (.iload_n 0, 1) := by decide +kernel
theorem dJ6_bitCount_0f7a4_26 : decode cJ6_bitCount_0f7a4 26 = .ok (.iconst 4, 1) := by decide +kernel
theorem dJ6_bitCount_0f7a4_27 : decode cJ6_bitCount_0f7a4 27 = .ok (.iushr, 1) := by decide +kernel
theorem dJ6_bitCount_0f7a4_28 : decode cJ6_bitCount_0f7a4 28 = .ok (.iadd, 1) := by decide +kernel
theorem dJ6_bitCount_0f7a4_29 : decode cJ6_bitCount_0f7a4 29 = .ok (.ldc_w 267, 3) := by decide +kernel
theorem dJ6_bitCount_0f7a4_32 : decode cJ6_bitCount_0f7a4 32 = .ok (.iand, 1) := by decide +kernel
theorem dJ6_bitCount_0f7a4_33 : decode cJ6_bitCount_0f7a4 33 = .ok (.istore_n 0, 1) := by decide +kernel
theorem dJ6_bitCount_0f7a4_34 : decode cJ6_bitCount_0f7a4 34 = .ok (.iload_n 0, 1) := by decide +kernel
theorem dJ6_bitCount_0f7a4_35 : decode cJ6_bitCount_0f7a4 35 = .ok (.iload_n 0, 1) := by decide +kernel
theorem dJ6_bitCount_0f7a4_36 : decode cJ6_bitCount_0f7a4 36 = .ok (.bipush 8, 2) := by decide +kernel
theorem dJ6_bitCount_0f7a4_38 : decode cJ6_bitCount_0f7a4 38 = .ok (.iushr, 1) := by decide +kernel
theorem dJ6_bitCount_0f7a4_39 : decode cJ6_bitCount_0f7a4 39 = .ok (.iadd, 1) := by decide +kernel
theorem dJ6_bitCount_0f7a4_40 : decode cJ6_bitCount_0f7a4 40 = .ok (.istore_n 0, 1) := by decide +kernel
theorem dJ6_bitCount_0f7a4_41 : decode cJ6_bitCount_0f7a4 41 = .ok (.iload_n 0, 1) := by decide +kernel
theorem dJ6_bitCount_0f7a4_42 : decode cJ6_bitCount_0f7a4 42 = .ok (.iload_n 0, 1) := by decide +kernel
theorem dJ6_bitCount_0f7a4_43 : decode cJ6_bitCount_0f7a4 43 = .ok (.bipush 16, 2) := by decide +kernel
theorem dJ6_bitCount_0f7a4_45 : decode cJ6_bitCount_0f7a4 45 = .ok (.iushr, 1) := by decide +kernel
theorem dJ6_bitCount_0f7a4_46 : decode cJ6_bitCount_0f7a4 46 = .ok (.iadd, 1) := by decide +kernel
theorem dJ6_bitCount_0f7a4_47 : decode cJ6_bitCount_0f7a4 47 = .ok (.istore_n 0, 1) := by decide +kernel
theorem dJ6_bitCount_0f7a4_48 : decode cJ6_bitCount_0f7a4 48 = .ok (.iload_n 0, 1) := by decide +kernel
theorem dJ6_bitCount_0f7a4_49 : decode cJ6_bitCount_0f7a4 49 = .ok (.bipush 63, 2) := by decide +kernel
theorem dJ6_bitCount_0f7a4_51 : decode cJ6_bitCount_0f7a4 51 = .ok (.iand, 1) := by decide +kernel
theorem dJ6_bitCount_0f7a4_52 : decode cJ6_bitCount_0f7a4 52 = .ok (.ireturn, 1) := by decide +kernel
theorem dJ9_max_7cf53_0 : decode cJ9_max_7cf53 0 = .ok (.iload_n 0, 1) := by decide +kernel
theorem dJ9_max_7cf53_1 : decode cJ9_max_7cf53 1 = .ok (.iload_n 1, 1) := by decide +kernel
theorem dJ9_max_7cf53_2 : decode cJ9_max_7cf53 2 = .ok (.if_icmp .lt 7, 3) := by decide +kernel
theorem dJ9_max_7cf53_5 : decode cJ9_max_7cf53 5 = .ok (.iload_n 0, 1) := by decide +kernel
theorem dJ9_max_7cf53_6 : decode cJ9_max_7cf53 6 = .ok (.goto 4, 3) := by decide +kernel
theorem dJ9_max_7cf53_9 : decode cJ9_max_7cf53 9 = .ok (.iload_n 1, 1) := by decide +kernel
theorem dJ9_max_7cf53_10 : decode cJ9_max_7cf53 10 = .ok (.ireturn, 1) := by decide +kernel
set_option maxRecDepth 20000 in
theorem ggL_addAccount_X2_addAccount : GoodIn wsL_addAccount wsX2_addAccount := goodIn_ca (goodIn_r _ [6, 7, 8, 9, 10, 11, 12, 5, 13, 14, 15, 16, 17, 18, 19, 20, 21, 22, 23, 24, 25, 26, 27, 28, 29] (by decide +kernel) (by decide +kernel)) (goodIn_sub (fun _ h => List.mem_cons_of_mem _ (List.mem_append_right _ h)) (by decide +kernel))
set_option maxRecDepth 20000 in
theorem gL_addAccount_X2_addAccount : GoodIn wsL_addAccount (wsV RL 7 RX2 yX2_addAccount wsX2_addAccount) := goodIn_app (goodIn_of _ (by decide +kernel)) ggL_addAccount_X2_addAccount
theorem dL_addAccount_0 : decode cL_addAccount 0 = .ok (.aload_n 1, 1) := by decide +kernel
theorem dL_addAccount_1 : decode cL_addAccount 1 = .ok (.iconst 0, 1) := by decide +kernel
theorem dL_addAccount_2 : decode cL_addAccount 2 = .ok (.aload_n 0, 1) := by decide +kernel
theorem dL_addAccount_3 : decode cL_addAccount 3 = .ok (.invokevirtual 7, 3) := by decide +kernel
theorem dL_addAccount_6 : decode cL_addAccount 6 = .ok (.i2l, 1) := by decide +kernel
theorem dL_addAccount_7 : decode cL_addAccount 7 = .ok (.lastore, 1) := by decide +kernel
theorem dL_addAccount_8 : decode cL_addAccount 8 = .ok (.goto 6, 3) := by decide +kernel
theorem dL_addAccount_11 : decode cL_addAccount 11 = .ok (.astore_n 2, 1) := by decide +kernel
theorem dL_addAccount_12 : decode cL_addAccount 12 = .ok (.iconst 1, 1) := by decide +kernel
theorem dL_addAccount_13 : decode cL_addAccount 13 = .ok (.ireturn, 1) := by decide +kernel
theorem dL_addAccount_14 : decode cL_addAccount 14 = .ok (.iconst 0, 1) := by decide +kernel
theorem dL_addAccount_15 : decode cL_addAccount 15 = .ok (.ireturn, 1) := by decide +kernel
set_option maxRecDepth 20000 in
theorem ggL_setHeir_X2_setHeir : GoodIn wsL_setHeir wsX2_setHeir := goodIn_ca (goodIn_ca (goodIn_ca (goodIn_r _ [7, 8, 9, 10, 11, 12, 13, 6, 14, 15, 16, 17, 18, 19, 20, 21, 22, 23, 24, 25, 26, 27, 28, 29, 30, 31, 32, 33, 34, 35, 36, 37, 38, 39, 40, 41, 42, 43, 44, 45, 46] (by decide +kernel) (by decide +kernel)) (goodIn_sub (fun _ h => List.mem_cons_of_mem _ (List.mem_append_left _ (List.mem_append_right _ h))) (by decide +kernel))) (goodIn_sub (fun _ h => List.mem_cons_of_mem _ (List.mem_append_right _ h)) (by decide +kernel))) (goodIn_sub (fun _ h => List.mem_cons_of_mem _ (List.mem_append_left _ (List.mem_append_left _ (List.mem_append_right _ h)))) (by decide +kernel))
set_option maxRecDepth 20000 in
theorem gL_setHeir_X2_setHeir : GoodIn wsL_setHeir (wsV RL 15 RX2 yX2_setHeir wsX2_setHeir) := goodIn_app (goodIn_of _ (by decide +kernel)) ggL_setHeir_X2_setHeir
theorem dL_setHeir_0 : decode cL_setHeir 0 = .ok (.aload_n 3, 1) := by decide +kernel
theorem dL_setHeir_1 : decode cL_setHeir 1 = .ok (.iconst 0, 1) := by decide +kernel
theorem dL_setHeir_2 : decode cL_setHeir 2 = .ok (.aload_n 0, 1) := by decide +kernel
theorem dL_setHeir_3 : decode cL_setHeir 3 = .ok (.iload_n 1, 1) := by decide +kernel
theorem dL_setHeir_4 : decode cL_setHeir 4 = .ok (.iload_n 2, 1) := by decide +kernel
theorem dL_setHeir_5 : decode cL_setHeir 5 = .ok (.invokevirtual 15, 3) := by decide +kernel
theorem dL_setHeir_8 : decode cL_setHeir 8 = .ok (.i2l, 1) := by decide +kernel
theorem dL_setHeir_9 : decode cL_setHeir 9 = .ok (.lastore, 1) := by decide +kernel
theorem dL_setHeir_10 : decode cL_setHeir 10 = .ok (.goto 11, 3) := by decide +kernel
theorem dL_setHeir_13 : decode cL_setHeir 13 = .ok (.astore 4, 2) := by decide +kernel
theorem dL_setHeir_15 : decode cL_setHeir 15 = .ok (.iconst 1, 1) := by decide +kernel
theorem dL_setHeir_16 : decode cL_setHeir 16 = .ok (.ireturn, 1) := by decide +kernel
theorem dL_setHeir_17 : decode cL_setHeir 17 = .ok (.astore 4, 2) := by decide +kernel
theorem dL_setHeir_19 : decode cL_setHeir 19 = .ok (.iconst 2, 1) := by decide +kernel
theorem dL_setHeir_20 : decode cL_setHeir 20 = .ok (.ireturn, 1) := by decide +kernel
theorem dL_setHeir_21 : decode cL_setHeir 21 = .ok (.iconst 0, 1) := by decide +kernel
theorem dL_setHeir_22 : decode cL_setHeir 22 = .ok (.ireturn, 1) := by decide +kernel
set_option maxRecDepth 20000 in
theorem ggL_addGroup_X2_addGroup : GoodIn wsL_addGroup wsX2_addGroup := goodIn_ca (goodIn_r _ [6, 7, 8, 9, 10, 11, 12, 13, 14, 15, 16, 17, 18, 19, 20, 21, 22, 23, 24, 25] (by decide +kernel) (by decide +kernel)) (goodIn_sub (fun _ h => List.mem_cons_of_mem _ (List.mem_append_right _ h)) (by decide +kernel))
set_option maxRecDepth 20000 in
theorem gL_addGroup_X2_addGroup : GoodIn wsL_addGroup (wsV RL 23 RX2 yX2_addGroup wsX2_addGroup) := goodIn_app (goodIn_of _ (by decide +kernel)) ggL_addGroup_X2_addGroup
theorem dL_addGroup_0 : decode cL_addGroup 0 = .ok (.aload_n 1, 1) := by decide +kernel
theorem dL_addGroup_1 : decode cL_addGroup 1 = .ok (.iconst 0, 1) := by decide +kernel
theorem dL_addGroup_2 : decode cL_addGroup 2 = .ok (.aload_n 0, 1) := by decide +kernel
theorem dL_addGroup_3 : decode cL_addGroup 3 = .ok (.invokevirtual 23, 3) := by decide +kernel
theorem dL_addGroup_6 : decode cL_addGroup 6 = .ok (.i2l, 1) := by decide +kernel
theorem dL_addGroup_7 : decode cL_addGroup 7 = .ok (.lastore, 1) := by decide +kernel
theorem dL_addGroup_8 : decode cL_addGroup 8 = .ok (.goto 6, 3) := by decide +kernel
theorem dL_addGroup_11 : decode cL_addGroup 11 = .ok (.astore_n 2, 1) := by decide +kernel
theorem dL_addGroup_12 : decode cL_addGroup 12 = .ok (.iconst 1, 1) := by decide +kernel
theorem dL_addGroup_13 : decode cL_addGroup 13 = .ok (.ireturn, 1) := by decide +kernel
theorem dL_addGroup_14 : decode cL_addGroup 14 = .ok (.iconst 0, 1) := by decide +kernel
theorem dL_addGroup_15 : decode cL_addGroup 15 = .ok (.ireturn, 1) := by decide +kernel
set_option maxRecDepth 20000 in
theorem ggL_join_X2_join : GoodIn wsL_join wsX2_join := goodIn_ca (goodIn_ca (goodIn_ca (goodIn_ca (goodIn_r _ [8, 9, 10, 11, 12, 13, 14, 7, 15, 16, 17, 18, 19, 20, 21, 22, 23, 24, 25, 26, 27, 28, 29, 30, 31, 32, 33, 34, 35, 36, 37, 38, 39, 40, 41, 42, 43, 44, 45, 46, 47, 48, 49, 50, 51, 52, 53, 54, 55, 56, 57, 58, 59, 60, 61, 62, 63, 64, 65, 66, 67, 68, 69, 70, 71] (by decide +kernel) (by decide +kernel)) (goodIn_sub (fun _ h => List.mem_cons_of_mem _ (List.mem_append_left _ (List.mem_append_left _ (List.mem_append_right _ h)))) (by decide +kernel))) (goodIn_sub (fun _ h => List.mem_cons_of_mem _ (List.mem_append_left _ (List.mem_append_right _ h))) (by decide +kernel))) (goodIn_sub (fun _ h => List.mem_cons_of_mem _ (List.mem_append_right _ h)) (by decide +kernel))) (goodIn_sub (fun _ h => List.mem_cons_of_mem _ (List.mem_append_left _ (List.mem_append_left _ (List.mem_append_left _ (List.mem_append_right _ h))))) (by decide +kernel))
set_option maxRecDepth 20000 in
theorem gL_join_X2_join : GoodIn wsL_join (wsV RL 26 RX2 yX2_join wsX2_join) := goodIn_app (goodIn_of _ (by decide +kernel)) ggL_join_X2_join
theorem dL_join_0 : decode cL_join 0 = .ok (.aload 4, 2) := by decide +kernel
theorem dL_join_2 : decode cL_join 2 = .ok (.iconst 0, 1) := by decide +kernel
theorem dL_join_3 : decode cL_join 3 = .ok (.aload_n 0, 1) := by decide +kernel
theorem dL_join_4 : decode cL_join 4 = .ok (.iload_n 1, 1) := by decide +kernel
theorem dL_join_5 : decode cL_join 5 = .ok (.iload_n 2, 1) := by decide +kernel
theorem dL_join_6 : decode cL_join 6 = .ok (.iload_n 3, 1) := by decide +kernel
theorem dL_join_7 : decode cL_join 7 = .ok (.invokevirtual 26, 3) := by decide +kernel
theorem dL_join_10 : decode cL_join 10 = .ok (.i2l, 1) := by decide +kernel
theorem dL_join_11 : decode cL_join 11 = .ok (.lastore, 1) := by decide +kernel
theorem dL_join_12 : decode cL_join 12 = .ok (.goto 15, 3) := by decide +kernel
theorem dL_join_15 : decode cL_join 15 = .ok (.astore 5, 2) := by decide +kernel
theorem dL_join_17 : decode cL_join 17 = .ok (.iconst 1, 1) := by decide +kernel
theorem dL_join_18 : decode cL_join 18 = .ok (.ireturn, 1) := by decide +kernel
theorem dL_join_19 : decode cL_join 19 = .ok (.astore 5, 2) := by decide +kernel
theorem dL_join_21 : decode cL_join 21 = .ok (.iconst 2, 1) := by decide +kernel
theorem dL_join_22 : decode cL_join 22 = .ok (.ireturn, 1) := by decide +kernel
theorem dL_join_23 : decode cL_join 23 = .ok (.astore 5, 2) := by decide +kernel
theorem dL_join_25 : decode cL_join 25 = .ok (.iconst 3, 1) := by decide +kernel
theorem dL_join_26 : decode cL_join 26 = .ok (.ireturn, 1) := by decide +kernel
theorem dL_join_27 : decode cL_join 27 = .ok (.iconst 0, 1) := by decide +kernel
theorem dL_join_28 : decode cL_join 28 = .ok (.ireturn, 1) := by decide +kernel
set_option maxRecDepth 20000 in
theorem ggL_nest_X2_nest : GoodIn wsL_nest wsX2_nest := goodIn_ca (goodIn_ca (goodIn_ca (goodIn_ca (goodIn_r _ [8, 9, 10, 11, 12, 13, 14, 7, 15, 16, 17, 18, 19, 20, 21, 22, 23, 24, 25, 26, 27, 28, 29, 30, 31, 32, 33, 34, 35, 36, 37, 38, 39, 40, 41, 42, 43, 44, 45, 46, 47, 48, 49, 50, 51, 52, 53, 54, 55, 56, 57, 58, 59, 60, 61, 62, 63, 64, 65, 66, 67, 68, 69, 70, 71, 72, 73, 74, 75, 76, 77] (by decide +kernel) (by decide +kernel)) (goodIn_sub (fun _ h => List.mem_cons_of_mem _ (List.mem_append_left _ (List.mem_append_left _ (List.mem_append_right _ h)))) (by decide +kernel))) (goodIn_sub (fun _ h => List.mem_cons_of_mem _ (List.mem_append_left _ (List.mem_append_right _ h))) (by decide +kernel))) (goodIn_sub (fun _ h => List.mem_cons_of_mem _ (List.mem_append_right _ h)) (by decide +kernel))) (goodIn_sub (fun _ h => List.mem_cons_of_mem _ (List.mem_append_left _ (List.mem_append_left _ (List.mem_append_left _ (List.mem_append_right _ h))))) (by decide +kernel))
set_option maxRecDepth 20000 in
theorem gL_nest_X2_nest : GoodIn wsL_nest (wsV RL 32 RX2 yX2_nest wsX2_nest) := goodIn_app (goodIn_of _ (by decide +kernel)) ggL_nest_X2_nest
theorem dL_nest_0 : decode cL_nest 0 = .ok (.aload 4, 2) := by decide +kernel
theorem dL_nest_2 : decode cL_nest 2 = .ok (.iconst 0, 1) := by decide +kernel
theorem dL_nest_3 : decode cL_nest 3 = .ok (.aload_n 0, 1) := by decide +kernel
theorem dL_nest_4 : decode cL_nest 4 = .ok (.iload_n 1, 1) := by decide +kernel
theorem dL_nest_5 : decode cL_nest 5 = .ok (.iload_n 2, 1) := by decide +kernel
theorem dL_nest_6 : decode cL_nest 6 = .ok (.iload_n 3, 1) := by decide +kernel
theorem dL_nest_7 : decode cL_nest 7 = .ok (.invokevirtual 32, 3) := by decide +kernel
theorem dL_nest_10 : decode cL_nest 10 = .ok (.i2l, 1) := by decide +kernel
theorem dL_nest_11 : decode cL_nest 11 = .ok (.lastore, 1) := by decide +kernel
theorem dL_nest_12 : decode cL_nest 12 = .ok (.goto 15, 3) := by decide +kernel
theorem dL_nest_15 : decode cL_nest 15 = .ok (.astore 5, 2) := by decide +kernel
theorem dL_nest_17 : decode cL_nest 17 = .ok (.iconst 1, 1) := by decide +kernel
theorem dL_nest_18 : decode cL_nest 18 = .ok (.ireturn, 1) := by decide +kernel
theorem dL_nest_19 : decode cL_nest 19 = .ok (.astore 5, 2) := by decide +kernel
theorem dL_nest_21 : decode cL_nest 21 = .ok (.iconst 2, 1) := by decide +kernel
theorem dL_nest_22 : decode cL_nest 22 = .ok (.ireturn, 1) := by decide +kernel
theorem dL_nest_23 : decode cL_nest 23 = .ok (.astore 5, 2) := by decide +kernel
theorem dL_nest_25 : decode cL_nest 25 = .ok (.iconst 3, 1) := by decide +kernel
theorem dL_nest_26 : decode cL_nest 26 = .ok (.ireturn, 1) := by decide +kernel
theorem dL_nest_27 : decode cL_nest 27 = .ok (.iconst 0, 1) := by decide +kernel
theorem dL_nest_28 : decode cL_nest 28 = .ok (.ireturn, 1) := by decide +kernel
set_option maxRecDepth 20000 in
theorem ggL_drop_X2_drop : GoodIn wsL_drop wsX2_drop := goodIn_ca (goodIn_ca (goodIn_ca (goodIn_r _ [7, 8, 9, 10, 11, 12, 13, 6, 14, 15, 16, 17, 18, 19, 20, 21, 22, 23, 24, 25, 26, 27, 28, 29, 30, 31, 32, 33, 34, 35, 36, 37, 38, 39, 40, 41, 42, 43, 44, 45, 46, 47, 48, 49, 50, 51, 52, 53, 54, 55, 56, 57, 58, 59, 60] (by decide +kernel) (by decide +kernel)) (goodIn_sub (fun _ h => List.mem_cons_of_mem _ (List.mem_append_left _ (List.mem_append_right _ h))) (by decide +kernel))) (goodIn_sub (fun _ h => List.mem_cons_of_mem _ (List.mem_append_right _ h)) (by decide +kernel))) (goodIn_sub (fun _ h => List.mem_cons_of_mem _ (List.mem_append_left _ (List.mem_append_left _ (List.mem_append_right _ h)))) (by decide +kernel))
set_option maxRecDepth 20000 in
theorem gL_drop_X2_drop : GoodIn wsL_drop (wsV RL 35 RX2 yX2_drop wsX2_drop) := goodIn_app (goodIn_of _ (by decide +kernel)) ggL_drop_X2_drop
theorem dL_drop_0 : decode cL_drop 0 = .ok (.aload_n 3, 1) := by decide +kernel
theorem dL_drop_1 : decode cL_drop 1 = .ok (.iconst 0, 1) := by decide +kernel
theorem dL_drop_2 : decode cL_drop 2 = .ok (.aload_n 0, 1) := by decide +kernel
theorem dL_drop_3 : decode cL_drop 3 = .ok (.iload_n 1, 1) := by decide +kernel
theorem dL_drop_4 : decode cL_drop 4 = .ok (.iload_n 2, 1) := by decide +kernel
theorem dL_drop_5 : decode cL_drop 5 = .ok (.invokevirtual 35, 3) := by decide +kernel
theorem dL_drop_8 : decode cL_drop 8 = .ok (.i2l, 1) := by decide +kernel
theorem dL_drop_9 : decode cL_drop 9 = .ok (.lastore, 1) := by decide +kernel
theorem dL_drop_10 : decode cL_drop 10 = .ok (.goto 11, 3) := by decide +kernel
theorem dL_drop_13 : decode cL_drop 13 = .ok (.astore 4, 2) := by decide +kernel
theorem dL_drop_15 : decode cL_drop 15 = .ok (.iconst 1, 1) := by decide +kernel
theorem dL_drop_16 : decode cL_drop 16 = .ok (.ireturn, 1) := by decide +kernel
theorem dL_drop_17 : decode cL_drop 17 = .ok (.astore 4, 2) := by decide +kernel
theorem dL_drop_19 : decode cL_drop 19 = .ok (.iconst 2, 1) := by decide +kernel
theorem dL_drop_20 : decode cL_drop 20 = .ok (.ireturn, 1) := by decide +kernel
theorem dL_drop_21 : decode cL_drop 21 = .ok (.iconst 0, 1) := by decide +kernel
theorem dL_drop_22 : decode cL_drop 22 = .ok (.ireturn, 1) := by decide +kernel
set_option maxRecDepth 20000 in
theorem ggL_isIn_X2_isIn : GoodIn wsL_isIn wsX2_isIn := goodIn_ca (goodIn_ca (goodIn_r _ [6, 7, 8, 9, 5, 10, 11, 12, 13, 14, 15, 16, 17, 18, 19, 20, 21, 22, 23, 24, 25, 26, 27, 28, 29, 30, 31, 32, 33, 34, 35, 36, 37, 38, 39, 40, 41, 42, 43, 44, 45, 46, 47, 48, 49, 50, 51, 52, 53, 54, 55, 56, 57, 58, 59, 60, 61, 62, 63, 64, 65, 66, 67, 68, 69, 70, 71] (by decide +kernel) (by decide +kernel)) (goodIn_sub (fun _ h => List.mem_cons_of_mem _ (List.mem_append_right _ h)) (by decide +kernel))) (goodIn_sub (fun _ h => List.mem_cons_of_mem _ (List.mem_append_left _ (List.mem_append_right _ h))) (by decide +kernel))
set_option maxRecDepth 20000 in
theorem gL_isIn_X2_isIn : GoodIn wsL_isIn (wsV RL 40 RX2 yX2_isIn wsX2_isIn) := goodIn_app (goodIn_of _ (by decide +kernel)) ggL_isIn_X2_isIn
theorem dL_isIn_0 : decode cL_isIn 0 = .ok (.aload_n 3, 1) := by decide +kernel
theorem dL_isIn_1 : decode cL_isIn 1 = .ok (.iconst 0, 1) := by decide +kernel
theorem dL_isIn_2 : decode cL_isIn 2 = .ok (.aload_n 0, 1) := by decide +kernel
theorem dL_isIn_3 : decode cL_isIn 3 = .ok (.iload_n 1, 1) := by decide +kernel
theorem dL_isIn_4 : decode cL_isIn 4 = .ok (.iload_n 2, 1) := by decide +kernel
theorem dL_isIn_5 : decode cL_isIn 5 = .ok (.invokevirtual 40, 3) := by decide +kernel
theorem dL_isIn_8 : decode cL_isIn 8 = .ok (.ifCond .eq 7, 3) := by decide +kernel
theorem dL_isIn_11 : decode cL_isIn 11 = .ok (.lconst 1, 1) := by decide +kernel
theorem dL_isIn_12 : decode cL_isIn 12 = .ok (.goto 4, 3) := by decide +kernel
theorem dL_isIn_15 : decode cL_isIn 15 = .ok (.lconst 0, 1) := by decide +kernel
theorem dL_isIn_16 : decode cL_isIn 16 = .ok (.lastore, 1) := by decide +kernel
theorem dL_isIn_17 : decode cL_isIn 17 = .ok (.goto 7, 3) := by decide +kernel
theorem dL_isIn_20 : decode cL_isIn 20 = .ok (.astore 4, 2) := by decide +kernel
theorem dL_isIn_22 : decode cL_isIn 22 = .ok (.iconst 1, 1) := by decide +kernel
theorem dL_isIn_23 : decode cL_isIn 23 = .ok (.ireturn, 1) := by decide +kernel
theorem dL_isIn_24 : decode cL_isIn 24 = .ok (.iconst 0, 1) := by decide +kernel
theorem dL_isIn_25 : decode cL_isIn 25 = .ok (.ireturn, 1) := by decide +kernel
set_option maxRecDepth 20000 in
theorem ggL_addFolder_X2_addFolder : GoodIn wsL_addFolder wsX2_addFolder := goodIn_ca (goodIn_ca (goodIn_ca (goodIn_ca (goodIn_r _ [8, 9, 10, 11, 12, 13, 14, 15, 16, 17, 18, 7, 19, 20, 21, 22, 23, 24, 25, 26, 27, 28, 29, 30, 31, 32, 33, 34, 35, 36, 37, 38, 39, 40, 41, 42, 43, 44, 45, 46, 47, 48, 49, 50, 51, 52, 53, 54, 55, 56, 57, 58] (by decide +kernel) (by decide +kernel)) (goodIn_sub (fun _ h => List.mem_cons_of_mem _ (List.mem_append_left _ (List.mem_append_left _ (List.mem_append_right _ h)))) (by decide +kernel))) (goodIn_sub (fun _ h => List.mem_cons_of_mem _ (List.mem_append_left _ (List.mem_append_right _ h))) (by decide +kernel))) (goodIn_sub (fun _ h => List.mem_cons_of_mem _ (List.mem_append_right _ h)) (by decide +kernel))) (goodIn_sub (fun _ h => List.mem_cons_of_mem _ (List.mem_append_left _ (List.mem_append_left _ (List.mem_append_left _ (List.mem_append_right _ h))))) (by decide +kernel))
set_option maxRecDepth 20000 in
theorem gL_addFolder_X2_addFolder : GoodIn wsL_addFolder (wsV RL 44 RX2 yX2_addFolder wsX2_addFolder) := goodIn_app (goodIn_of _ (by decide +kernel)) ggL_addFolder_X2_addFolder
theorem dL_addFolder_0 : decode cL_addFolder 0 = .ok (.aload_n 3, 1) := by decide +kernel
theorem dL_addFolder_1 : decode cL_addFolder 1 = .ok (.iconst 0, 1) := by decide +kernel
theorem dL_addFolder_2 : decode cL_addFolder 2 = .ok (.aload_n 0, 1) := by decide +kernel
theorem dL_addFolder_3 : decode cL_addFolder 3 = .ok (.iload_n 1, 1) := by decide +kernel
theorem dL_addFolder_4 : decode cL_addFolder 4 = .ok (.iload_n 2, 1) := by decide +kernel
theorem dL_addFolder_5 : decode cL_addFolder 5 = .ok (.invokevirtual 44, 3) := by decide +kernel
theorem dL_addFolder_8 : decode cL_addFolder 8 = .ok (.i2l, 1) := by decide +kernel
theorem dL_addFolder_9 : decode cL_addFolder 9 = .ok (.lastore, 1) := by decide +kernel
theorem dL_addFolder_10 : decode cL_addFolder 10 = .ok (.goto 15, 3) := by decide +kernel
theorem dL_addFolder_13 : decode cL_addFolder 13 = .ok (.astore 4, 2) := by decide +kernel
theorem dL_addFolder_15 : decode cL_addFolder 15 = .ok (.iconst 1, 1) := by decide +kernel
theorem dL_addFolder_16 : decode cL_addFolder 16 = .ok (.ireturn, 1) := by decide +kernel
theorem dL_addFolder_17 : decode cL_addFolder 17 = .ok (.astore 4, 2) := by decide +kernel
theorem dL_addFolder_19 : decode cL_addFolder 19 = .ok (.iconst 2, 1) := by decide +kernel
theorem dL_addFolder_20 : decode cL_addFolder 20 = .ok (.ireturn, 1) := by decide +kernel
theorem dL_addFolder_21 : decode cL_addFolder 21 = .ok (.astore 4, 2) := by decide +kernel
theorem dL_addFolder_23 : decode cL_addFolder 23 = .ok (.iconst 3, 1) := by decide +kernel
theorem dL_addFolder_24 : decode cL_addFolder 24 = .ok (.ireturn, 1) := by decide +kernel
theorem dL_addFolder_25 : decode cL_addFolder 25 = .ok (.iconst 0, 1) := by decide +kernel
theorem dL_addFolder_26 : decode cL_addFolder 26 = .ok (.ireturn, 1) := by decide +kernel
set_option maxRecDepth 20000 in
theorem ggL_shareWith_X2_shareWith : GoodIn wsL_shareWith wsX2_shareWith := goodIn_ca (goodIn_ca (goodIn_ca (goodIn_ca (goodIn_r _ [8, 9, 10, 11, 12, 7, 13, 14, 15, 16, 17, 18, 19, 20, 21, 22, 23, 24, 25, 26, 27, 28, 29, 30, 31, 32, 33, 34, 35, 36, 37, 38, 39, 40, 41, 42, 43, 44, 45, 46, 47, 48, 49, 50, 51, 52, 53, 54, 55, 56, 57, 58, 59, 60, 61, 62, 63, 64, 65, 66, 67, 68, 69, 70, 71, 72, 73, 74, 75, 76, 77, 78] (by decide +kernel) (by decide +kernel)) (goodIn_sub (fun _ h => List.mem_cons_of_mem _ (List.mem_append_left _ (List.mem_append_left _ (List.mem_append_right _ h)))) (by decide +kernel))) (goodIn_sub (fun _ h => List.mem_cons_of_mem _ (List.mem_append_left _ (List.mem_append_right _ h))) (by decide +kernel))) (goodIn_sub (fun _ h => List.mem_cons_of_mem _ (List.mem_append_right _ h)) (by decide +kernel))) (goodIn_sub (fun _ h => List.mem_cons_of_mem _ (List.mem_append_left _ (List.mem_append_left _ (List.mem_append_left _ (List.mem_append_right _ h))))) (by decide +kernel))
set_option maxRecDepth 20000 in
theorem gL_shareWith_X2_shareWith : GoodIn wsL_shareWith (wsV RL 47 RX2 yX2_shareWith wsX2_shareWith) := goodIn_app (goodIn_of _ (by decide +kernel)) ggL_shareWith_X2_shareWith
theorem dL_shareWith_0 : decode cL_shareWith 0 = .ok (.aload 4, 2) := by decide +kernel
theorem dL_shareWith_2 : decode cL_shareWith 2 = .ok (.iconst 0, 1) := by decide +kernel
theorem dL_shareWith_3 : decode cL_shareWith 3 = .ok (.aload_n 0, 1) := by decide +kernel
theorem dL_shareWith_4 : decode cL_shareWith 4 = .ok (.iload_n 1, 1) := by decide +kernel
theorem dL_shareWith_5 : decode cL_shareWith 5 = .ok (.iload_n 2, 1) := by decide +kernel
theorem dL_shareWith_6 : decode cL_shareWith 6 = .ok (.iload_n 3, 1) := by decide +kernel
theorem dL_shareWith_7 : decode cL_shareWith 7 = .ok (.invokevirtual 47, 3) := by decide +kernel
theorem dL_shareWith_10 : decode cL_shareWith 10 = .ok (.i2l, 1) := by decide +kernel
theorem dL_shareWith_11 : decode cL_shareWith 11 = .ok (.lastore, 1) := by decide +kernel
theorem dL_shareWith_12 : decode cL_shareWith 12 = .ok (.goto 15, 3) := by decide +kernel
theorem dL_shareWith_15 : decode cL_shareWith 15 = .ok (.astore 5, 2) := by decide +kernel
theorem dL_shareWith_17 : decode cL_shareWith 17 = .ok (.iconst 1, 1) := by decide +kernel
theorem dL_shareWith_18 : decode cL_shareWith 18 = .ok (.ireturn, 1) := by decide +kernel
theorem dL_shareWith_19 : decode cL_shareWith 19 = .ok (.astore 5, 2) := by decide +kernel
theorem dL_shareWith_21 : decode cL_shareWith 21 = .ok (.iconst 2, 1) := by decide +kernel
theorem dL_shareWith_22 : decode cL_shareWith 22 = .ok (.ireturn, 1) := by decide +kernel
theorem dL_shareWith_23 : decode cL_shareWith 23 = .ok (.astore 5, 2) := by decide +kernel
theorem dL_shareWith_25 : decode cL_shareWith 25 = .ok (.iconst 3, 1) := by decide +kernel
theorem dL_shareWith_26 : decode cL_shareWith 26 = .ok (.ireturn, 1) := by decide +kernel
theorem dL_shareWith_27 : decode cL_shareWith 27 = .ok (.iconst 0, 1) := by decide +kernel
theorem dL_shareWith_28 : decode cL_shareWith 28 = .ok (.ireturn, 1) := by decide +kernel
set_option maxRecDepth 20000 in
theorem ggL_shareWithGroup_X2_shareWithGroup : GoodIn wsL_shareWithGroup wsX2_shareWithGroup := goodIn_ca (goodIn_ca (goodIn_ca (goodIn_ca (goodIn_r _ [8, 9, 10, 11, 12, 7, 13, 14, 15, 16, 17, 18, 19, 20, 21, 22, 23, 24, 25, 26, 27, 28, 29, 30, 31, 32, 33, 34, 35, 36, 37, 38, 39, 40, 41, 42, 43, 44, 45, 46, 47, 48, 49, 50, 51, 52, 53, 54, 55, 56, 57, 58, 59, 60, 61, 62, 63, 64, 65, 66, 67, 68, 69, 70, 71, 72, 73, 74, 75, 76, 77, 78] (by decide +kernel) (by decide +kernel)) (goodIn_sub (fun _ h => List.mem_cons_of_mem _ (List.mem_append_left _ (List.mem_append_left _ (List.mem_append_right _ h)))) (by decide +kernel))) (goodIn_sub (fun _ h => List.mem_cons_of_mem _ (List.mem_append_left _ (List.mem_append_right _ h))) (by decide +kernel))) (goodIn_sub (fun _ h => List.mem_cons_of_mem _ (List.mem_append_right _ h)) (by decide +kernel))) (goodIn_sub (fun _ h => List.mem_cons_of_mem _ (List.mem_append_left _ (List.mem_append_left _ (List.mem_append_left _ (List.mem_append_right _ h))))) (by decide +kernel))
set_option maxRecDepth 20000 in
theorem gL_shareWithGroup_X2_shareWithGroup : GoodIn wsL_shareWithGroup (wsV RL 50 RX2 yX2_shareWithGroup wsX2_shareWithGroup) := goodIn_app (goodIn_of _ (by decide +kernel)) ggL_shareWithGroup_X2_shareWithGroup
theorem dL_shareWithGroup_0 : decode cL_shareWithGroup 0 = .ok (.aload 4, 2) := by decide +kernel
theorem dL_shareWithGroup_2 : decode cL_shareWithGroup 2 = .ok (.iconst 0, 1) := by decide +kernel
theorem dL_shareWithGroup_3 : decode cL_shareWithGroup 3 = .ok (.aload_n 0, 1) := by decide +kernel
theorem dL_shareWithGroup_4 : decode cL_shareWithGroup 4 = .ok (.iload_n 1, 1) := by decide +kernel
theorem dL_shareWithGroup_5 : decode cL_shareWithGroup 5 = .ok (.iload_n 2, 1) := by decide +kernel
theorem dL_shareWithGroup_6 : decode cL_shareWithGroup 6 = .ok (.iload_n 3, 1) := by decide +kernel
theorem dL_shareWithGroup_7 : decode cL_shareWithGroup 7 = .ok (.invokevirtual 50, 3) := by decide +kernel
theorem dL_shareWithGroup_10 : decode cL_shareWithGroup 10 = .ok (.i2l, 1) := by decide +kernel
theorem dL_shareWithGroup_11 : decode cL_shareWithGroup 11 = .ok (.lastore, 1) := by decide +kernel
theorem dL_shareWithGroup_12 : decode cL_shareWithGroup 12 = .ok (.goto 15, 3) := by decide +kernel
theorem dL_shareWithGroup_15 : decode cL_shareWithGroup 15 = .ok (.astore 5, 2) := by decide +kernel
theorem dL_shareWithGroup_17 : decode cL_shareWithGroup 17 = .ok (.iconst 1, 1) := by decide +kernel
theorem dL_shareWithGroup_18 : decode cL_shareWithGroup 18 = .ok (.ireturn, 1) := by decide +kernel
theorem dL_shareWithGroup_19 : decode cL_shareWithGroup 19 = .ok (.astore 5, 2) := by decide +kernel
theorem dL_shareWithGroup_21 : decode cL_shareWithGroup 21 = .ok (.iconst 2, 1) := by decide +kernel
theorem dL_shareWithGroup_22 : decode cL_shareWithGroup 22 = .ok (.ireturn, 1) := by decide +kernel
theorem dL_shareWithGroup_23 : decode cL_shareWithGroup 23 = .ok (.astore 5, 2) := by decide +kernel
theorem dL_shareWithGroup_25 : decode cL_shareWithGroup 25 = .ok (.iconst 3, 1) := by decide +kernel
theorem dL_shareWithGroup_26 : decode cL_shareWithGroup 26 = .ok (.ireturn, 1) := by decide +kernel
theorem dL_shareWithGroup_27 : decode cL_shareWithGroup 27 = .ok (.iconst 0, 1) := by decide +kernel
theorem dL_shareWithGroup_28 : decode cL_shareWithGroup 28 = .ok (.ireturn, 1) := by decide +kernel
set_option maxRecDepth 20000 in
theorem ggL_setBroken_X2_setBroken : GoodIn wsL_setBroken wsX2_setBroken := goodIn_ca (goodIn_ca (goodIn_r _ [7, 8, 9, 10, 11, 6, 12, 13, 14, 15, 16, 17, 18, 19, 20, 21, 22, 23, 24, 25, 26, 27, 28, 29, 30, 31, 32, 33, 34, 35, 36, 37, 38, 39, 40, 41, 42, 43, 44, 45, 46, 47, 48, 49, 50, 51] (by decide +kernel) (by decide +kernel)) (goodIn_sub (fun _ h => List.mem_cons_of_mem _ (List.mem_append_left _ (List.mem_append_right _ h))) (by decide +kernel))) (goodIn_sub (fun _ h => List.mem_cons_of_mem _ (List.mem_append_right _ h)) (by decide +kernel))
set_option maxRecDepth 20000 in
theorem gL_setBroken_X2_setBroken : GoodIn wsL_setBroken (wsV RL 53 RX2 yX2_setBroken wsX2_setBroken) := goodIn_app (goodIn_of _ (by decide +kernel)) ggL_setBroken_X2_setBroken
theorem dL_setBroken_0 : decode cL_setBroken 0 = .ok (.aload_n 3, 1) := by decide +kernel
theorem dL_setBroken_1 : decode cL_setBroken 1 = .ok (.iconst 0, 1) := by decide +kernel
theorem dL_setBroken_2 : decode cL_setBroken 2 = .ok (.aload_n 0, 1) := by decide +kernel
theorem dL_setBroken_3 : decode cL_setBroken 3 = .ok (.iload_n 1, 1) := by decide +kernel
theorem dL_setBroken_4 : decode cL_setBroken 4 = .ok (.iload_n 2, 1) := by decide +kernel
theorem dL_setBroken_5 : decode cL_setBroken 5 = .ok (.invokevirtual 53, 3) := by decide +kernel
theorem dL_setBroken_8 : decode cL_setBroken 8 = .ok (.ifCond .eq 7, 3) := by decide +kernel
theorem dL_setBroken_11 : decode cL_setBroken 11 = .ok (.lconst 1, 1) := by decide +kernel
theorem dL_setBroken_12 : decode cL_setBroken 12 = .ok (.goto 4, 3) := by decide +kernel
theorem dL_setBroken_15 : decode cL_setBroken 15 = .ok (.lconst 0, 1) := by decide +kernel
theorem dL_setBroken_16 : decode cL_setBroken 16 = .ok (.lastore, 1) := by decide +kernel
theorem dL_setBroken_17 : decode cL_setBroken 17 = .ok (.goto 11, 3) := by decide +kernel
theorem dL_setBroken_20 : decode cL_setBroken 20 = .ok (.astore 4, 2) := by decide +kernel
theorem dL_setBroken_22 : decode cL_setBroken 22 = .ok (.iconst 1, 1) := by decide +kernel
theorem dL_setBroken_23 : decode cL_setBroken 23 = .ok (.ireturn, 1) := by decide +kernel
theorem dL_setBroken_24 : decode cL_setBroken 24 = .ok (.astore 4, 2) := by decide +kernel
theorem dL_setBroken_26 : decode cL_setBroken 26 = .ok (.iconst 2, 1) := by decide +kernel
theorem dL_setBroken_27 : decode cL_setBroken 27 = .ok (.ireturn, 1) := by decide +kernel
theorem dL_setBroken_28 : decode cL_setBroken 28 = .ok (.iconst 0, 1) := by decide +kernel
theorem dL_setBroken_29 : decode cL_setBroken 29 = .ok (.ireturn, 1) := by decide +kernel
set_option maxRecDepth 20000 in
theorem ggL_owner_X2_owner : GoodIn wsL_owner wsX2_owner := goodIn_ca (goodIn_ca (goodIn_r _ [6, 7, 8, 9, 10, 5, 11, 12, 13, 14, 15, 16, 17, 18, 19, 20, 21, 22, 23, 24, 25, 26, 27, 28, 29, 30, 31, 32, 33, 34, 35, 36, 37, 38, 39] (by decide +kernel) (by decide +kernel)) (goodIn_sub (fun _ h => List.mem_cons_of_mem _ (List.mem_append_right _ h)) (by decide +kernel))) (goodIn_sub (fun _ h => List.mem_cons_of_mem _ (List.mem_append_left _ (List.mem_append_right _ h))) (by decide +kernel))
set_option maxRecDepth 20000 in
theorem gL_owner_X2_owner : GoodIn wsL_owner (wsV RL 57 RX2 yX2_owner wsX2_owner) := goodIn_app (goodIn_of _ (by decide +kernel)) ggL_owner_X2_owner
theorem dL_owner_0 : decode cL_owner 0 = .ok (.aload_n 2, 1) := by decide +kernel
theorem dL_owner_1 : decode cL_owner 1 = .ok (.iconst 0, 1) := by decide +kernel
theorem dL_owner_2 : decode cL_owner 2 = .ok (.aload_n 0, 1) := by decide +kernel
theorem dL_owner_3 : decode cL_owner 3 = .ok (.iload_n 1, 1) := by decide +kernel
theorem dL_owner_4 : decode cL_owner 4 = .ok (.invokevirtual 57, 3) := by decide +kernel
theorem dL_owner_7 : decode cL_owner 7 = .ok (.i2l, 1) := by decide +kernel
theorem dL_owner_8 : decode cL_owner 8 = .ok (.lastore, 1) := by decide +kernel
theorem dL_owner_9 : decode cL_owner 9 = .ok (.goto 6, 3) := by decide +kernel
theorem dL_owner_12 : decode cL_owner 12 = .ok (.astore_n 3, 1) := by decide +kernel
theorem dL_owner_13 : decode cL_owner 13 = .ok (.iconst 1, 1) := by decide +kernel
theorem dL_owner_14 : decode cL_owner 14 = .ok (.ireturn, 1) := by decide +kernel
theorem dL_owner_15 : decode cL_owner 15 = .ok (.iconst 0, 1) := by decide +kernel
theorem dL_owner_16 : decode cL_owner 16 = .ok (.ireturn, 1) := by decide +kernel
set_option maxRecDepth 20000 in
theorem ggL_right_X2_right : GoodIn wsL_right wsX2_right := goodIn_ca (goodIn_ca (goodIn_r _ [6, 7, 8, 9, 5, 10, 11, 12, 13, 14, 15, 16, 17, 18, 19, 20, 21, 22, 23, 24, 25, 26, 27, 28, 29, 30, 31, 32, 33, 34, 35, 36, 37, 38, 39, 40, 41, 42, 43, 44, 45, 46, 47, 48, 49, 50, 51, 52, 53, 54, 55, 56, 57, 58, 59, 60, 61, 62, 63, 64, 65, 66, 67, 68, 69, 70, 71, 72, 73, 74, 75, 76, 77, 78, 79, 80, 81, 82, 83, 84, 85, 86, 87, 88, 89, 90, 91, 92, 93, 94, 95, 96, 97, 98, 99, 100, 101, 102, 103, 104, 105, 106, 107] (by decide +kernel) (by decide +kernel)) (goodIn_sub (fun _ h => List.mem_cons_of_mem _ (List.mem_append_right _ h)) (by decide +kernel))) (goodIn_sub (fun _ h => List.mem_cons_of_mem _ (List.mem_append_left _ (List.mem_append_right _ h))) (by decide +kernel))
set_option maxRecDepth 20000 in
theorem gL_right_X2_right : GoodIn wsL_right (wsV RL 61 RX2 yX2_right wsX2_right) := goodIn_app (goodIn_of _ (by decide +kernel)) ggL_right_X2_right
theorem dL_right_0 : decode cL_right 0 = .ok (.aload_n 3, 1) := by decide +kernel
theorem dL_right_1 : decode cL_right 1 = .ok (.iconst 0, 1) := by decide +kernel
theorem dL_right_2 : decode cL_right 2 = .ok (.aload_n 0, 1) := by decide +kernel
theorem dL_right_3 : decode cL_right 3 = .ok (.iload_n 1, 1) := by decide +kernel
theorem dL_right_4 : decode cL_right 4 = .ok (.iload_n 2, 1) := by decide +kernel
theorem dL_right_5 : decode cL_right 5 = .ok (.invokevirtual 61, 3) := by decide +kernel
theorem dL_right_8 : decode cL_right 8 = .ok (.i2l, 1) := by decide +kernel
theorem dL_right_9 : decode cL_right 9 = .ok (.lastore, 1) := by decide +kernel
theorem dL_right_10 : decode cL_right 10 = .ok (.goto 7, 3) := by decide +kernel
theorem dL_right_13 : decode cL_right 13 = .ok (.astore 4, 2) := by decide +kernel
theorem dL_right_15 : decode cL_right 15 = .ok (.iconst 1, 1) := by decide +kernel
theorem dL_right_16 : decode cL_right 16 = .ok (.ireturn, 1) := by decide +kernel
theorem dL_right_17 : decode cL_right 17 = .ok (.iconst 0, 1) := by decide +kernel
theorem dL_right_18 : decode cL_right 18 = .ok (.ireturn, 1) := by decide +kernel
set_option maxRecDepth 20000 in
theorem ggL_rightByWalking_X2_rightByWalking : GoodIn wsL_rightByWalking wsX2_rightByWalking := goodIn_ca (goodIn_ca (goodIn_r _ [6, 7, 8, 9, 10, 5, 11, 12, 13, 14, 15, 16, 17, 18, 19, 20, 21, 22, 23, 24, 25, 26, 27, 28, 29, 30, 31, 32, 33, 34, 35, 36, 37, 38, 39, 40, 41, 42, 43, 44, 45, 46, 47, 48, 49, 50, 51, 52, 53, 54, 55, 56, 57, 58, 59, 60, 61, 62, 63, 64, 65, 66, 67, 68, 69, 70, 71, 72, 73, 74, 75, 76, 77, 78, 79, 80, 81, 82, 83, 84, 85, 86, 87, 88, 89, 90, 91, 92, 93, 94, 95, 96] (by decide +kernel) (by decide +kernel)) (goodIn_sub (fun _ h => List.mem_cons_of_mem _ (List.mem_append_right _ h)) (by decide +kernel))) (goodIn_sub (fun _ h => List.mem_cons_of_mem _ (List.mem_append_left _ (List.mem_append_right _ h))) (by decide +kernel))
set_option maxRecDepth 20000 in
theorem gL_rightByWalking_X2_rightByWalking : GoodIn wsL_rightByWalking (wsV RL 64 RX2 yX2_rightByWalking wsX2_rightByWalking) := goodIn_app (goodIn_of _ (by decide +kernel)) ggL_rightByWalking_X2_rightByWalking
theorem dL_rightByWalking_0 : decode cL_rightByWalking 0 = .ok (.aload_n 3, 1) := by decide +kernel
theorem dL_rightByWalking_1 : decode cL_rightByWalking 1 = .ok (.iconst 0, 1) := by decide +kernel
theorem dL_rightByWalking_2 : decode cL_rightByWalking 2 = .ok (.aload_n 0, 1) := by decide +kernel
theorem dL_rightByWalking_3 : decode cL_rightByWalking 3 = .ok (.iload_n 1, 1) := by decide +kernel
theorem dL_rightByWalking_4 : decode cL_rightByWalking 4 = .ok (.iload_n 2, 1) := by decide +kernel
theorem dL_rightByWalking_5 : decode cL_rightByWalking 5 = .ok (.invokevirtual 64, 3) := by decide +kernel
theorem dL_rightByWalking_8 : decode cL_rightByWalking 8 = .ok (.i2l, 1) := by decide +kernel
theorem dL_rightByWalking_9 : decode cL_rightByWalking 9 = .ok (.lastore, 1) := by decide +kernel
theorem dL_rightByWalking_10 : decode cL_rightByWalking 10 = .ok (.goto 7, 3) := by decide +kernel
theorem dL_rightByWalking_13 : decode cL_rightByWalking 13 = .ok (.astore 4, 2) := by decide +kernel
theorem dL_rightByWalking_15 : decode cL_rightByWalking 15 = .ok (.iconst 1, 1) := by decide +kernel
theorem dL_rightByWalking_16 : decode cL_rightByWalking 16 = .ok (.ireturn, 1) := by decide +kernel
theorem dL_rightByWalking_17 : decode cL_rightByWalking 17 = .ok (.iconst 0, 1) := by decide +kernel
theorem dL_rightByWalking_18 : decode cL_rightByWalking 18 = .ok (.ireturn, 1) := by decide +kernel
set_option maxRecDepth 20000 in
theorem ggL_holders_X2_holders : GoodIn wsL_holders wsX2_holders := goodIn_ca (goodIn_ca (goodIn_ca (goodIn_r _ [7, 8, 9, 10, 11, 6, 12, 13, 14, 15, 16, 17, 18, 19, 20, 21, 22, 23, 24, 25, 26, 27, 28, 29, 30, 31, 32, 33, 34, 35, 36, 37, 38, 39, 40, 41, 42, 43, 44, 45, 46, 47, 48, 49, 50, 51, 52, 53, 54, 55, 56, 57, 58, 59, 60, 61, 62, 63, 64, 65, 66, 67, 68, 69, 70, 71, 72, 73, 74, 75, 76, 77, 78, 79, 80, 81, 82, 83, 84, 85, 86, 87, 88, 89, 90, 91, 92, 93, 94, 95, 96, 97, 98, 99, 100, 101, 102, 103, 104, 105, 106, 107, 108, 109] (by decide +kernel) (by decide +kernel)) (goodIn_sub (fun _ h => List.mem_cons_of_mem _ (List.mem_append_left _ (List.mem_append_right _ h))) (by decide +kernel))) (goodIn_sub (fun _ h => List.mem_cons_of_mem _ (List.mem_append_right _ h)) (by decide +kernel))) (goodIn_sub (fun _ h => List.mem_cons_of_mem _ (List.mem_append_left _ (List.mem_append_left _ (List.mem_append_right _ h)))) (by decide +kernel))
set_option maxRecDepth 20000 in
theorem gL_holders_X2_holders : GoodIn wsL_holders (wsV RL 67 RX2 yX2_holders wsX2_holders) := goodIn_app (goodIn_of _ (by decide +kernel)) ggL_holders_X2_holders
theorem dL_holders_0 : decode cL_holders 0 = .ok (.aload_n 3, 1) := by decide +kernel
theorem dL_holders_1 : decode cL_holders 1 = .ok (.iconst 0, 1) := by decide +kernel
theorem dL_holders_2 : decode cL_holders 2 = .ok (.aload_n 0, 1) := by decide +kernel
theorem dL_holders_3 : decode cL_holders 3 = .ok (.iload_n 1, 1) := by decide +kernel
theorem dL_holders_4 : decode cL_holders 4 = .ok (.iload_n 2, 1) := by decide +kernel
theorem dL_holders_5 : decode cL_holders 5 = .ok (.invokevirtual 67, 3) := by decide +kernel
theorem dL_holders_8 : decode cL_holders 8 = .ok (.i2l, 1) := by decide +kernel
theorem dL_holders_9 : decode cL_holders 9 = .ok (.lastore, 1) := by decide +kernel
theorem dL_holders_10 : decode cL_holders 10 = .ok (.goto 11, 3) := by decide +kernel
theorem dL_holders_13 : decode cL_holders 13 = .ok (.astore 4, 2) := by decide +kernel
theorem dL_holders_15 : decode cL_holders 15 = .ok (.iconst 1, 1) := by decide +kernel
theorem dL_holders_16 : decode cL_holders 16 = .ok (.ireturn, 1) := by decide +kernel
theorem dL_holders_17 : decode cL_holders 17 = .ok (.astore 4, 2) := by decide +kernel
theorem dL_holders_19 : decode cL_holders 19 = .ok (.iconst 2, 1) := by decide +kernel
theorem dL_holders_20 : decode cL_holders 20 = .ok (.ireturn, 1) := by decide +kernel
theorem dL_holders_21 : decode cL_holders 21 = .ok (.iconst 0, 1) := by decide +kernel
theorem dL_holders_22 : decode cL_holders 22 = .ok (.ireturn, 1) := by decide +kernel
set_option maxRecDepth 20000 in
theorem ggL_addRoom_X2_addRoom : GoodIn wsL_addRoom wsX2_addRoom := goodIn_ca (goodIn_ca (goodIn_ca (goodIn_r _ [7, 8, 9, 10, 11, 12, 13, 14, 6, 15, 16, 17, 18, 19, 20, 21, 22, 23, 24, 25, 26, 27, 28, 29, 30, 31, 32, 33, 34, 35, 36, 37, 38, 39, 40, 41, 42] (by decide +kernel) (by decide +kernel)) (goodIn_sub (fun _ h => List.mem_cons_of_mem _ (List.mem_append_left _ (List.mem_append_right _ h))) (by decide +kernel))) (goodIn_sub (fun _ h => List.mem_cons_of_mem _ (List.mem_append_right _ h)) (by decide +kernel))) (goodIn_sub (fun _ h => List.mem_cons_of_mem _ (List.mem_append_left _ (List.mem_append_left _ (List.mem_append_right _ h)))) (by decide +kernel))
set_option maxRecDepth 20000 in
theorem gL_addRoom_X2_addRoom : GoodIn wsL_addRoom (wsV RL 70 RX2 yX2_addRoom wsX2_addRoom) := goodIn_app (goodIn_of _ (by decide +kernel)) ggL_addRoom_X2_addRoom
theorem dL_addRoom_0 : decode cL_addRoom 0 = .ok (.aload_n 2, 1) := by decide +kernel
theorem dL_addRoom_1 : decode cL_addRoom 1 = .ok (.iconst 0, 1) := by decide +kernel
theorem dL_addRoom_2 : decode cL_addRoom 2 = .ok (.aload_n 0, 1) := by decide +kernel
theorem dL_addRoom_3 : decode cL_addRoom 3 = .ok (.iload_n 1, 1) := by decide +kernel
theorem dL_addRoom_4 : decode cL_addRoom 4 = .ok (.invokevirtual 70, 3) := by decide +kernel
theorem dL_addRoom_7 : decode cL_addRoom 7 = .ok (.i2l, 1) := by decide +kernel
theorem dL_addRoom_8 : decode cL_addRoom 8 = .ok (.lastore, 1) := by decide +kernel
theorem dL_addRoom_9 : decode cL_addRoom 9 = .ok (.goto 9, 3) := by decide +kernel
theorem dL_addRoom_12 : decode cL_addRoom 12 = .ok (.astore_n 3, 1) := by decide +kernel
theorem dL_addRoom_13 : decode cL_addRoom 13 = .ok (.iconst 1, 1) := by decide +kernel
theorem dL_addRoom_14 : decode cL_addRoom 14 = .ok (.ireturn, 1) := by decide +kernel
theorem dL_addRoom_15 : decode cL_addRoom 15 = .ok (.astore_n 3, 1) := by decide +kernel
theorem dL_addRoom_16 : decode cL_addRoom 16 = .ok (.iconst 2, 1) := by decide +kernel
theorem dL_addRoom_17 : decode cL_addRoom 17 = .ok (.ireturn, 1) := by decide +kernel
theorem dL_addRoom_18 : decode cL_addRoom 18 = .ok (.iconst 0, 1) := by decide +kernel
theorem dL_addRoom_19 : decode cL_addRoom 19 = .ok (.ireturn, 1) := by decide +kernel
set_option maxRecDepth 20000 in
theorem ggL_reads_X2_reads : GoodIn wsL_reads wsX2_reads := goodIn_ca (goodIn_ca (goodIn_r _ [6, 7, 8, 9, 10, 5, 11, 12, 13, 14, 15, 16, 17, 18, 19, 20, 21, 22, 23, 24, 25, 26, 27, 28, 29, 30, 31, 32, 33, 34, 35, 36, 37, 38, 39, 40, 41, 42, 43, 44, 45, 46, 47, 48, 49, 50, 51, 52, 53, 54, 55, 56, 57, 58, 59, 60, 61, 62, 63, 64, 65, 66, 67, 68, 69, 70, 71, 72, 73, 74, 75, 76, 77, 78, 79, 80, 81, 82, 83, 84, 85, 86, 87, 88, 89, 90, 91] (by decide +kernel) (by decide +kernel)) (goodIn_sub (fun _ h => List.mem_cons_of_mem _ (List.mem_append_right _ h)) (by decide +kernel))) (goodIn_sub (fun _ h => List.mem_cons_of_mem _ (List.mem_append_left _ (List.mem_append_right _ h))) (by decide +kernel))
set_option maxRecDepth 20000 in
theorem gL_reads_X2_reads : GoodIn wsL_reads (wsV RL 73 RX2 yX2_reads wsX2_reads) := goodIn_app (goodIn_of _ (by decide +kernel)) ggL_reads_X2_reads
theorem dL_reads_0 : decode cL_reads 0 = .ok (.aload_n 3, 1) := by decide +kernel
theorem dL_reads_1 : decode cL_reads 1 = .ok (.iconst 0, 1) := by decide +kernel
theorem dL_reads_2 : decode cL_reads 2 = .ok (.aload_n 0, 1) := by decide +kernel
theorem dL_reads_3 : decode cL_reads 3 = .ok (.iload_n 1, 1) := by decide +kernel
theorem dL_reads_4 : decode cL_reads 4 = .ok (.iload_n 2, 1) := by decide +kernel
theorem dL_reads_5 : decode cL_reads 5 = .ok (.invokevirtual 73, 3) := by decide +kernel
theorem dL_reads_8 : decode cL_reads 8 = .ok (.ifCond .eq 7, 3) := by decide +kernel
theorem dL_reads_11 : decode cL_reads 11 = .ok (.lconst 1, 1) := by decide +kernel
theorem dL_reads_12 : decode cL_reads 12 = .ok (.goto 4, 3) := by decide +kernel
theorem dL_reads_15 : decode cL_reads 15 = .ok (.lconst 0, 1) := by decide +kernel
theorem dL_reads_16 : decode cL_reads 16 = .ok (.lastore, 1) := by decide +kernel
theorem dL_reads_17 : decode cL_reads 17 = .ok (.goto 7, 3) := by decide +kernel
theorem dL_reads_20 : decode cL_reads 20 = .ok (.astore 4, 2) := by decide +kernel
theorem dL_reads_22 : decode cL_reads 22 = .ok (.iconst 1, 1) := by decide +kernel
theorem dL_reads_23 : decode cL_reads 23 = .ok (.ireturn, 1) := by decide +kernel
theorem dL_reads_24 : decode cL_reads 24 = .ok (.iconst 0, 1) := by decide +kernel
theorem dL_reads_25 : decode cL_reads 25 = .ok (.ireturn, 1) := by decide +kernel
set_option maxRecDepth 20000 in
theorem ggL_readers_X2_readers : GoodIn wsL_readers wsX2_readers := goodIn_ca (goodIn_ca (goodIn_r _ [6, 7, 8, 9, 10, 5, 11, 12, 13, 14, 15, 16, 17, 18, 19, 20, 21, 22, 23, 24, 25, 26, 27, 28, 29, 30, 31, 32, 33, 34, 35, 36, 37, 38, 39, 40, 41, 42, 43, 44, 45, 46, 47, 48, 49, 50, 51, 52, 53, 54, 55, 56, 57, 58, 59, 60, 61, 62, 63, 64, 65, 66, 67, 68, 69, 70, 71, 72, 73, 74, 75, 76, 77, 78, 79, 80, 81, 82, 83, 84, 85, 86, 87] (by decide +kernel) (by decide +kernel)) (goodIn_sub (fun _ h => List.mem_cons_of_mem _ (List.mem_append_right _ h)) (by decide +kernel))) (goodIn_sub (fun _ h => List.mem_cons_of_mem _ (List.mem_append_left _ (List.mem_append_right _ h))) (by decide +kernel))
set_option maxRecDepth 20000 in
theorem gL_readers_X2_readers : GoodIn wsL_readers (wsV RL 76 RX2 yX2_readers wsX2_readers) := goodIn_app (goodIn_of _ (by decide +kernel)) ggL_readers_X2_readers
theorem dL_readers_0 : decode cL_readers 0 = .ok (.aload_n 2, 1) := by decide +kernel
theorem dL_readers_1 : decode cL_readers 1 = .ok (.iconst 0, 1) := by decide +kernel
theorem dL_readers_2 : decode cL_readers 2 = .ok (.aload_n 0, 1) := by decide +kernel
theorem dL_readers_3 : decode cL_readers 3 = .ok (.iload_n 1, 1) := by decide +kernel
theorem dL_readers_4 : decode cL_readers 4 = .ok (.invokevirtual 76, 3) := by decide +kernel
theorem dL_readers_7 : decode cL_readers 7 = .ok (.i2l, 1) := by decide +kernel
theorem dL_readers_8 : decode cL_readers 8 = .ok (.lastore, 1) := by decide +kernel
theorem dL_readers_9 : decode cL_readers 9 = .ok (.goto 6, 3) := by decide +kernel
theorem dL_readers_12 : decode cL_readers 12 = .ok (.astore_n 3, 1) := by decide +kernel
theorem dL_readers_13 : decode cL_readers 13 = .ok (.iconst 1, 1) := by decide +kernel
theorem dL_readers_14 : decode cL_readers 14 = .ok (.ireturn, 1) := by decide +kernel
theorem dL_readers_15 : decode cL_readers 15 = .ok (.iconst 0, 1) := by decide +kernel
theorem dL_readers_16 : decode cL_readers 16 = .ok (.ireturn, 1) := by decide +kernel
set_option maxRecDepth 20000 in
theorem ggL_keeper_X2_keeper : GoodIn wsL_keeper wsX2_keeper := goodIn_ca (goodIn_ca (goodIn_r _ [6, 7, 8, 9, 5, 10, 11, 12, 13, 14, 15, 16, 17, 18, 19, 20, 21, 22, 23, 24, 25, 26, 27, 28, 29, 30, 31, 32, 33, 34, 35, 36, 37, 38, 39, 40, 41, 42, 43, 44, 45, 46, 47, 48, 49, 50, 51, 52, 53, 54, 55, 56, 57, 58, 59, 60, 61, 62, 63, 64, 65, 66, 67, 68, 69, 70] (by decide +kernel) (by decide +kernel)) (goodIn_sub (fun _ h => List.mem_cons_of_mem _ (List.mem_append_right _ h)) (by decide +kernel))) (goodIn_sub (fun _ h => List.mem_cons_of_mem _ (List.mem_append_left _ (List.mem_append_right _ h))) (by decide +kernel))
set_option maxRecDepth 20000 in
theorem gL_keeper_X2_keeper : GoodIn wsL_keeper (wsV RL 79 RX2 yX2_keeper wsX2_keeper) := goodIn_app (goodIn_of _ (by decide +kernel)) ggL_keeper_X2_keeper
theorem dL_keeper_0 : decode cL_keeper 0 = .ok (.aload_n 2, 1) := by decide +kernel
theorem dL_keeper_1 : decode cL_keeper 1 = .ok (.iconst 0, 1) := by decide +kernel
theorem dL_keeper_2 : decode cL_keeper 2 = .ok (.aload_n 0, 1) := by decide +kernel
theorem dL_keeper_3 : decode cL_keeper 3 = .ok (.iload_n 1, 1) := by decide +kernel
theorem dL_keeper_4 : decode cL_keeper 4 = .ok (.invokevirtual 79, 3) := by decide +kernel
theorem dL_keeper_7 : decode cL_keeper 7 = .ok (.i2l, 1) := by decide +kernel
theorem dL_keeper_8 : decode cL_keeper 8 = .ok (.lastore, 1) := by decide +kernel
theorem dL_keeper_9 : decode cL_keeper 9 = .ok (.goto 6, 3) := by decide +kernel
theorem dL_keeper_12 : decode cL_keeper 12 = .ok (.astore_n 3, 1) := by decide +kernel
theorem dL_keeper_13 : decode cL_keeper 13 = .ok (.iconst 1, 1) := by decide +kernel
theorem dL_keeper_14 : decode cL_keeper 14 = .ok (.ireturn, 1) := by decide +kernel
theorem dL_keeper_15 : decode cL_keeper 15 = .ok (.iconst 0, 1) := by decide +kernel
theorem dL_keeper_16 : decode cL_keeper 16 = .ok (.ireturn, 1) := by decide +kernel
set_option maxRecDepth 20000 in
theorem ggL_leave_X2_leave : GoodIn wsL_leave wsX2_leave := goodIn_ca (goodIn_ca (goodIn_ca (goodIn_ca (goodIn_r _ [8, 9, 10, 11, 12, 13, 14, 15, 16, 7, 17, 18, 19, 20, 21, 22, 23, 24, 25, 26, 27, 28, 29, 30, 31, 32, 33, 34, 35, 36, 37, 38, 39, 40, 41, 42, 43, 44, 45, 46, 47, 48, 49, 50, 51, 52, 53, 54, 55, 56, 57, 58, 59, 60, 61, 62, 63, 64, 65, 66, 67, 68, 69, 70, 71, 72, 73, 74, 75, 76, 77, 78, 79, 80, 81, 82, 83, 84, 85, 86, 87, 88] (by decide +kernel) (by decide +kernel)) (goodIn_sub (fun _ h => List.mem_cons_of_mem _ (List.mem_append_left _ (List.mem_append_left _ (List.mem_append_right _ h)))) (by decide +kernel))) (goodIn_sub (fun _ h => List.mem_cons_of_mem _ (List.mem_append_left _ (List.mem_append_right _ h))) (by decide +kernel))) (goodIn_sub (fun _ h => List.mem_cons_of_mem _ (List.mem_append_right _ h)) (by decide +kernel))) (goodIn_sub (fun _ h => List.mem_cons_of_mem _ (List.mem_append_left _ (List.mem_append_left _ (List.mem_append_left _ (List.mem_append_right _ h))))) (by decide +kernel))
set_option maxRecDepth 20000 in
theorem gL_leave_X2_leave : GoodIn wsL_leave (wsV RL 82 RX2 yX2_leave wsX2_leave) := goodIn_app (goodIn_of _ (by decide +kernel)) ggL_leave_X2_leave
theorem dL_leave_0 : decode cL_leave 0 = .ok (.aload_n 2, 1) := by decide +kernel
theorem dL_leave_1 : decode cL_leave 1 = .ok (.iconst 0, 1) := by decide +kernel
theorem dL_leave_2 : decode cL_leave 2 = .ok (.aload_n 0, 1) := by decide +kernel
theorem dL_leave_3 : decode cL_leave 3 = .ok (.iload_n 1, 1) := by decide +kernel
theorem dL_leave_4 : decode cL_leave 4 = .ok (.invokevirtual 82, 3) := by decide +kernel
theorem dL_leave_7 : decode cL_leave 7 = .ok (.i2l, 1) := by decide +kernel
theorem dL_leave_8 : decode cL_leave 8 = .ok (.lastore, 1) := by decide +kernel
theorem dL_leave_9 : decode cL_leave 9 = .ok (.goto 12, 3) := by decide +kernel
theorem dL_leave_12 : decode cL_leave 12 = .ok (.astore_n 3, 1) := by decide +kernel
theorem dL_leave_13 : decode cL_leave 13 = .ok (.iconst 1, 1) := by decide +kernel
theorem dL_leave_14 : decode cL_leave 14 = .ok (.ireturn, 1) := by decide +kernel
theorem dL_leave_15 : decode cL_leave 15 = .ok (.astore_n 3, 1) := by decide +kernel
theorem dL_leave_16 : decode cL_leave 16 = .ok (.iconst 2, 1) := by decide +kernel
theorem dL_leave_17 : decode cL_leave 17 = .ok (.ireturn, 1) := by decide +kernel
theorem dL_leave_18 : decode cL_leave 18 = .ok (.astore_n 3, 1) := by decide +kernel
theorem dL_leave_19 : decode cL_leave 19 = .ok (.iconst 3, 1) := by decide +kernel
theorem dL_leave_20 : decode cL_leave 20 = .ok (.ireturn, 1) := by decide +kernel
theorem dL_leave_21 : decode cL_leave 21 = .ok (.iconst 0, 1) := by decide +kernel
theorem dL_leave_22 : decode cL_leave 22 = .ok (.ireturn, 1) := by decide +kernel
set_option maxRecDepth 20000 in
theorem ggL_hold_X2_hold : GoodIn wsL_hold wsX2_hold := goodIn_ca (goodIn_ca (goodIn_r _ [7, 8, 9, 10, 11, 6, 12, 13, 14, 15, 16, 17, 18, 19, 20, 21, 22, 23, 24, 25, 26, 27, 28, 29, 30, 31, 32, 33, 34, 35, 36, 37, 38, 39, 40, 41, 42, 43, 44, 45, 46, 47, 48, 49, 50, 51, 52, 53, 54] (by decide +kernel) (by decide +kernel)) (goodIn_sub (fun _ h => List.mem_cons_of_mem _ (List.mem_append_left _ (List.mem_append_right _ h))) (by decide +kernel))) (goodIn_sub (fun _ h => List.mem_cons_of_mem _ (List.mem_append_right _ h)) (by decide +kernel))
set_option maxRecDepth 20000 in
theorem gL_hold_X2_hold : GoodIn wsL_hold (wsV RL 85 RX2 yX2_hold wsX2_hold) := goodIn_app (goodIn_of _ (by decide +kernel)) ggL_hold_X2_hold
theorem dL_hold_0 : decode cL_hold 0 = .ok (.aload_n 2, 1) := by decide +kernel
theorem dL_hold_1 : decode cL_hold 1 = .ok (.iconst 0, 1) := by decide +kernel
theorem dL_hold_2 : decode cL_hold 2 = .ok (.aload_n 0, 1) := by decide +kernel
theorem dL_hold_3 : decode cL_hold 3 = .ok (.iload_n 1, 1) := by decide +kernel
theorem dL_hold_4 : decode cL_hold 4 = .ok (.invokevirtual 85, 3) := by decide +kernel
theorem dL_hold_7 : decode cL_hold 7 = .ok (.i2l, 1) := by decide +kernel
theorem dL_hold_8 : decode cL_hold 8 = .ok (.lastore, 1) := by decide +kernel
theorem dL_hold_9 : decode cL_hold 9 = .ok (.goto 9, 3) := by decide +kernel
theorem dL_hold_12 : decode cL_hold 12 = .ok (.astore_n 3, 1) := by decide +kernel
theorem dL_hold_13 : decode cL_hold 13 = .ok (.iconst 1, 1) := by decide +kernel
theorem dL_hold_14 : decode cL_hold 14 = .ok (.ireturn, 1) := by decide +kernel
theorem dL_hold_15 : decode cL_hold 15 = .ok (.astore_n 3, 1) := by decide +kernel
theorem dL_hold_16 : decode cL_hold 16 = .ok (.iconst 2, 1) := by decide +kernel
theorem dL_hold_17 : decode cL_hold 17 = .ok (.ireturn, 1) := by decide +kernel
theorem dL_hold_18 : decode cL_hold 18 = .ok (.iconst 0, 1) := by decide +kernel
theorem dL_hold_19 : decode cL_hold 19 = .ok (.ireturn, 1) := by decide +kernel
set_option maxRecDepth 20000 in
theorem ggL_release_X2_release : GoodIn wsL_release wsX2_release := goodIn_ca (goodIn_ca (goodIn_ca (goodIn_r _ [7, 8, 9, 10, 11, 12, 13, 14, 6, 15, 16, 17, 18, 19, 20, 21, 22, 23, 24, 25, 26, 27, 28, 29, 30, 31, 32, 33, 34, 35, 36, 37, 38, 39, 40, 41, 42, 43, 44, 45, 46, 47, 48, 49, 50, 51, 52, 53, 54, 55, 56, 57, 58, 59, 60, 61, 62, 63, 64, 65, 66, 67, 68, 69, 70, 71, 72, 73, 74, 75, 76, 77, 78, 79, 80] (by decide +kernel) (by decide +kernel)) (goodIn_sub (fun _ h => List.mem_cons_of_mem _ (List.mem_append_left _ (List.mem_append_right _ h))) (by decide +kernel))) (goodIn_sub (fun _ h => List.mem_cons_of_mem _ (List.mem_append_right _ h)) (by decide +kernel))) (goodIn_sub (fun _ h => List.mem_cons_of_mem _ (List.mem_append_left _ (List.mem_append_left _ (List.mem_append_right _ h)))) (by decide +kernel))
set_option maxRecDepth 20000 in
theorem gL_release_X2_release : GoodIn wsL_release (wsV RL 88 RX2 yX2_release wsX2_release) := goodIn_app (goodIn_of _ (by decide +kernel)) ggL_release_X2_release
theorem dL_release_0 : decode cL_release 0 = .ok (.aload_n 2, 1) := by decide +kernel
theorem dL_release_1 : decode cL_release 1 = .ok (.iconst 0, 1) := by decide +kernel
theorem dL_release_2 : decode cL_release 2 = .ok (.aload_n 0, 1) := by decide +kernel
theorem dL_release_3 : decode cL_release 3 = .ok (.iload_n 1, 1) := by decide +kernel
theorem dL_release_4 : decode cL_release 4 = .ok (.invokevirtual 88, 3) := by decide +kernel
theorem dL_release_7 : decode cL_release 7 = .ok (.i2l, 1) := by decide +kernel
theorem dL_release_8 : decode cL_release 8 = .ok (.lastore, 1) := by decide +kernel
theorem dL_release_9 : decode cL_release 9 = .ok (.goto 9, 3) := by decide +kernel
theorem dL_release_12 : decode cL_release 12 = .ok (.astore_n 3, 1) := by decide +kernel
theorem dL_release_13 : decode cL_release 13 = .ok (.iconst 1, 1) := by decide +kernel
theorem dL_release_14 : decode cL_release 14 = .ok (.ireturn, 1) := by decide +kernel
theorem dL_release_15 : decode cL_release 15 = .ok (.astore_n 3, 1) := by decide +kernel
theorem dL_release_16 : decode cL_release 16 = .ok (.iconst 2, 1) := by decide +kernel
theorem dL_release_17 : decode cL_release 17 = .ok (.ireturn, 1) := by decide +kernel
theorem dL_release_18 : decode cL_release 18 = .ok (.iconst 0, 1) := by decide +kernel
theorem dL_release_19 : decode cL_release 19 = .ok (.ireturn, 1) := by decide +kernel
set_option maxRecDepth 20000 in
theorem ggL_pass_X2_pass : GoodIn wsL_pass wsX2_pass := goodIn_ca (goodIn_ca (goodIn_r _ [6, 7, 8, 9, 10, 11, 12, 13, 14, 15, 16, 17, 18, 19, 20, 21, 22, 23, 24, 25, 26, 27, 28, 29, 30, 31, 32, 33, 34, 35] (by decide +kernel) (by decide +kernel)) (goodIn_sub (fun _ h => List.mem_cons_of_mem _ (List.mem_append_right _ h)) (by decide +kernel))) (goodIn_sub (fun _ h => List.mem_cons_of_mem _ (List.mem_append_left _ (List.mem_append_right _ h))) (by decide +kernel))
set_option maxRecDepth 20000 in
theorem gL_pass_X2_pass : GoodIn wsL_pass (wsV RL 91 RX2 yX2_pass wsX2_pass) := goodIn_app (goodIn_of _ (by decide +kernel)) ggL_pass_X2_pass
theorem dL_pass_0 : decode cL_pass 0 = .ok (.aload_n 2, 1) := by decide +kernel
theorem dL_pass_1 : decode cL_pass 1 = .ok (.iconst 0, 1) := by decide +kernel
theorem dL_pass_2 : decode cL_pass 2 = .ok (.aload_n 0, 1) := by decide +kernel
theorem dL_pass_3 : decode cL_pass 3 = .ok (.iload_n 1, 1) := by decide +kernel
theorem dL_pass_4 : decode cL_pass 4 = .ok (.invokevirtual 91, 3) := by decide +kernel
theorem dL_pass_7 : decode cL_pass 7 = .ok (.i2l, 1) := by decide +kernel
theorem dL_pass_8 : decode cL_pass 8 = .ok (.lastore, 1) := by decide +kernel
theorem dL_pass_9 : decode cL_pass 9 = .ok (.goto 6, 3) := by decide +kernel
theorem dL_pass_12 : decode cL_pass 12 = .ok (.astore_n 3, 1) := by decide +kernel
theorem dL_pass_13 : decode cL_pass 13 = .ok (.iconst 1, 1) := by decide +kernel
theorem dL_pass_14 : decode cL_pass 14 = .ok (.ireturn, 1) := by decide +kernel
theorem dL_pass_15 : decode cL_pass 15 = .ok (.iconst 0, 1) := by decide +kernel
theorem dL_pass_16 : decode cL_pass 16 = .ok (.ireturn, 1) := by decide +kernel
set_option maxRecDepth 20000 in
theorem ggL_openShare_X2_openShare : GoodIn wsL_openShare wsX2_openShare := goodIn_ca (goodIn_ca (goodIn_r _ [6, 7, 8, 9, 10, 11, 12, 13, 14, 15, 16, 17, 18, 19, 20, 5, 21, 22, 23, 24, 25, 26, 27, 28, 29, 30, 31, 32, 33, 34, 35, 36, 37, 38, 39, 40, 41, 42, 43, 44, 45, 46, 47, 48, 49, 50, 51, 52, 53, 54, 55, 56, 57, 58, 59, 60, 61, 62, 63, 64, 65, 66, 67, 68, 69, 70, 71, 72, 73, 74, 75, 76, 77, 78, 79, 80, 81, 82, 83, 84, 85, 86, 87, 88, 89, 90, 91, 92, 93, 94, 95, 96, 97, 98, 99, 100, 101, 102, 103, 104, 105, 106, 107, 108, 109, 110] (by decide +kernel) (by decide +kernel)) (goodIn_sub (fun _ h => List.mem_cons_of_mem _ (List.mem_append_right _ h)) (by decide +kernel))) (goodIn_sub (fun _ h => List.mem_cons_of_mem _ (List.mem_append_left _ (List.mem_append_right _ h))) (by decide +kernel))
set_option maxRecDepth 20000 in
theorem gL_openShare_X2_openShare : GoodIn wsL_openShare (wsV RL 94 RX2 yX2_openShare wsX2_openShare) := goodIn_app (goodIn_of _ (by decide +kernel)) ggL_openShare_X2_openShare
theorem dL_openShare_0 : decode cL_openShare 0 = .ok (.aload_n 1, 1) := by decide +kernel
theorem dL_openShare_1 : decode cL_openShare 1 = .ok (.iconst 0, 1) := by decide +kernel
theorem dL_openShare_2 : decode cL_openShare 2 = .ok (.aload_n 0, 1) := by decide +kernel
theorem dL_openShare_3 : decode cL_openShare 3 = .ok (.invokevirtual 94, 3) := by decide +kernel
theorem dL_openShare_6 : decode cL_openShare 6 = .ok (.f2d, 1) := by decide +kernel
theorem dL_openShare_7 : decode cL_openShare 7 = .ok (.dastore, 1) := by decide +kernel
theorem dL_openShare_8 : decode cL_openShare 8 = .ok (.goto 6, 3) := by decide +kernel
theorem dL_openShare_11 : decode cL_openShare 11 = .ok (.astore_n 2, 1) := by decide +kernel
theorem dL_openShare_12 : decode cL_openShare 12 = .ok (.iconst 1, 1) := by decide +kernel
theorem dL_openShare_13 : decode cL_openShare 13 = .ok (.ireturn, 1) := by decide +kernel
theorem dL_openShare_14 : decode cL_openShare 14 = .ok (.iconst 0, 1) := by decide +kernel
theorem dL_openShare_15 : decode cL_openShare 15 = .ok (.ireturn, 1) := by decide +kernel
set_option maxRecDepth 20000 in
theorem ggL_meanOwned_X2_meanOwned : GoodIn wsL_meanOwned wsX2_meanOwned := goodIn_ca (goodIn_ca (goodIn_r _ [6, 7, 8, 9, 10, 11, 12, 13, 14, 15, 16, 17, 18, 19, 20, 5, 21, 22, 23, 24, 25, 26, 27, 28, 29, 30, 31, 32, 33, 34, 35, 36, 37, 38, 39, 40, 41, 42, 43, 44, 45, 46, 47, 48, 49, 50, 51, 52, 53] (by decide +kernel) (by decide +kernel)) (goodIn_sub (fun _ h => List.mem_cons_of_mem _ (List.mem_append_right _ h)) (by decide +kernel))) (goodIn_sub (fun _ h => List.mem_cons_of_mem _ (List.mem_append_left _ (List.mem_append_right _ h))) (by decide +kernel))
set_option maxRecDepth 20000 in
theorem gL_meanOwned_X2_meanOwned : GoodIn wsL_meanOwned (wsV RL 100 RX2 yX2_meanOwned wsX2_meanOwned) := goodIn_app (goodIn_of _ (by decide +kernel)) ggL_meanOwned_X2_meanOwned
theorem dL_meanOwned_0 : decode cL_meanOwned 0 = .ok (.aload_n 1, 1) := by decide +kernel
theorem dL_meanOwned_1 : decode cL_meanOwned 1 = .ok (.iconst 0, 1) := by decide +kernel
theorem dL_meanOwned_2 : decode cL_meanOwned 2 = .ok (.aload_n 0, 1) := by decide +kernel
theorem dL_meanOwned_3 : decode cL_meanOwned 3 = .ok (.invokevirtual 100, 3) := by decide +kernel
theorem dL_meanOwned_6 : decode cL_meanOwned 6 = .ok (.dastore, 1) := by decide +kernel
theorem dL_meanOwned_7 : decode cL_meanOwned 7 = .ok (.goto 6, 3) := by decide +kernel
theorem dL_meanOwned_10 : decode cL_meanOwned 10 = .ok (.astore_n 2, 1) := by decide +kernel
theorem dL_meanOwned_11 : decode cL_meanOwned 11 = .ok (.iconst 1, 1) := by decide +kernel
theorem dL_meanOwned_12 : decode cL_meanOwned 12 = .ok (.ireturn, 1) := by decide +kernel
theorem dL_meanOwned_13 : decode cL_meanOwned 13 = .ok (.iconst 0, 1) := by decide +kernel
theorem dL_meanOwned_14 : decode cL_meanOwned 14 = .ok (.ireturn, 1) := by decide +kernel
set_option maxRecDepth 20000 in
theorem ggL_law_X2_init : GoodIn wsL_law wsX2_init := goodIn_ca (goodIn_r _ [10, 11, 12, 13, 14, 15, 16, 17, 18, 19, 20, 21, 22, 23, 24, 25, 26, 27, 28, 29, 30, 31, 32, 33, 34, 35, 36, 37, 38, 39, 40, 41, 42, 43, 44, 45, 46, 47, 671, 672, 636, 637, 638, 639, 640, 641, 642, 643, 644, 645, 646, 647, 648, 649, 650, 651, 673, 674] (by decide +kernel) (by decide +kernel)) (goodIn_sub (fun _ h => List.mem_append_left _ (List.mem_append_left _ (List.mem_append_left _ (List.mem_append_left _ (List.mem_append_left _ (List.mem_append_left _ (List.mem_append_right _ h))))))) (by decide +kernel))
set_option maxRecDepth 20000 in
theorem gL_law_X2_init : GoodIn wsL_law (wsX2_init) := ggL_law_X2_init
set_option maxRecDepth 20000 in
theorem ggL_law_X3_init : GoodIn wsL_law wsX3_init := goodIn_ca (goodIn_r _ [50, 51, 12, 13, 52, 53, 54, 38, 55, 56, 57, 58, 59, 60, 61, 62, 63, 64, 65, 66, 652, 653, 654, 655, 656, 657, 658, 659, 660, 661, 662, 663, 664, 665, 666, 667, 668, 669, 670] (by decide +kernel) (by decide +kernel)) (goodIn_sub (fun _ h => List.mem_append_left _ (List.mem_append_left _ (List.mem_append_left _ (List.mem_append_left _ (List.mem_append_left _ (List.mem_append_left _ (List.mem_append_right _ h))))))) (by decide +kernel))
set_option maxRecDepth 20000 in
theorem gL_law_X3_init : GoodIn wsL_law (wsX3_init) := ggL_law_X3_init
set_option maxRecDepth 20000 in
theorem ggL_law_L_addAccount : GoodIn wsL_law wsL_addAccount := goodIn_ca (goodIn_ca (goodIn_r _ [70, 71, 72, 73, 74, 2, 75, 76, 77, 28, 29, 78, 79, 80, 636, 637, 638, 639, 640, 641, 642, 643, 644, 645, 646, 647, 648, 649, 650, 651] (by decide +kernel) (by decide +kernel)) (goodIn_sub (fun _ h => List.mem_append_left _ (List.mem_append_left _ (List.mem_append_left _ (List.mem_append_left _ (List.mem_append_left _ (List.mem_append_left _ (List.mem_append_right _ h))))))) (by decide +kernel))) (goodIn_sub (fun _ h => List.mem_append_left _ (List.mem_append_left _ (List.mem_append_left _ (List.mem_append_left _ (List.mem_append_left _ (List.mem_append_right _ h)))))) (by decide +kernel))
set_option maxRecDepth 20000 in
theorem gL_law_L_addAccount : GoodIn wsL_law (va_wsS RL 108 yL_addAccount wsL_addAccount) := goodIn_app (goodIn_of _ (by decide +kernel)) ggL_law_L_addAccount
set_option maxRecDepth 20000 in
theorem ggL_law_X3_addAccount : GoodIn wsL_law wsX3_addAccount := goodIn_r _ [84, 52, 85, 86, 87, 5, 88, 89, 652, 653, 654, 655, 656, 657, 658, 659, 660, 661, 662, 663, 664, 665, 666, 667, 668, 669, 670] (by decide +kernel) (by decide +kernel)
set_option maxRecDepth 20000 in
theorem gL_law_X3_addAccount : GoodIn wsL_law (wsV RL 113 RX3 yX3_addAccount wsX3_addAccount) := goodIn_app (goodIn_of _ (by decide +kernel)) ggL_law_X3_addAccount
set_option maxRecDepth 20000 in
theorem ggL_law_X3_thrown : GoodIn wsL_law wsX3_thrown := goodIn_r _ [93, 89, 652, 653, 654, 655, 656, 657, 658, 659, 660, 661, 662, 663, 664, 665, 666, 667, 668, 669, 670] (by decide +kernel) (by decide +kernel)
set_option maxRecDepth 20000 in
theorem gL_law_X3_thrown : GoodIn wsL_law (wsV RL 114 RX3 yX3_thrown wsX3_thrown) := goodIn_app (goodIn_of _ (by decide +kernel)) ggL_law_X3_thrown
set_option maxRecDepth 20000 in
theorem ggL_law_L_setHeir : GoodIn wsL_law wsL_setHeir := goodIn_ca (goodIn_ca (goodIn_ca (goodIn_r _ [96, 97, 98, 99, 100, 101, 2, 102, 103, 104, 17, 105, 106, 107, 108, 109, 110, 28, 111, 112, 113, 16, 114, 39, 40, 115, 116, 117, 118, 636, 637, 638, 639, 640, 641, 642, 643, 644, 645, 646, 647, 648, 649, 650, 651, 671, 672] (by decide +kernel) (by decide +kernel)) (goodIn_sub (fun _ h => List.mem_append_left _ (List.mem_append_left _ (List.mem_append_left _ (List.mem_append_left _ (List.mem_append_left _ (List.mem_append_left _ (List.mem_append_right _ h))))))) (by decide +kernel))) (goodIn_sub (fun _ h => List.mem_append_left _ (List.mem_append_left _ (List.mem_append_left _ (List.mem_append_left _ (List.mem_append_right _ h))))) (by decide +kernel))) (goodIn_sub (fun _ h => List.mem_append_left _ (List.mem_append_left _ (List.mem_append_left _ (List.mem_append_right _ h)))) (by decide +kernel))
set_option maxRecDepth 20000 in
theorem gL_law_L_setHeir : GoodIn wsL_law (va_wsS RL 117 yL_setHeir wsL_setHeir) := goodIn_app (goodIn_of _ (by decide +kernel)) ggL_law_L_setHeir
set_option maxRecDepth 20000 in
theorem ggL_law_X3_setHeir : GoodIn wsL_law wsX3_setHeir := goodIn_ca (goodIn_r _ [122, 55, 123, 124, 125, 5, 126, 52, 127, 128, 129, 85, 86, 87, 88, 89, 652, 653, 654, 655, 656, 657, 658, 659, 660, 661, 662, 663, 664, 665, 666, 667, 668, 669, 670] (by decide +kernel) (by decide +kernel)) (goodIn_sub (fun _ h => List.mem_append_left _ (List.mem_append_left _ (List.mem_append_left _ (List.mem_append_left _ (List.mem_append_left _ (List.mem_append_left _ (List.mem_append_right _ h))))))) (by decide +kernel))
set_option maxRecDepth 20000 in
theorem gL_law_X3_setHeir : GoodIn wsL_law (wsV RL 120 RX3 yX3_setHeir wsX3_setHeir) := goodIn_app (goodIn_of _ (by decide +kernel)) ggL_law_X3_setHeir
set_option maxRecDepth 20000 in
theorem ggL_law_L_addGroup : GoodIn wsL_law wsL_addGroup := goodIn_ca (goodIn_ca (goodIn_r _ [132, 71, 133, 134, 135, 2, 136, 76, 77, 137, 636, 637, 638, 639, 640, 641, 642, 643, 644, 645, 646, 647, 648, 649, 650, 651] (by decide +kernel) (by decide +kernel)) (goodIn_sub (fun _ h => List.mem_append_left _ (List.mem_append_left _ (List.mem_append_left _ (List.mem_append_left _ (List.mem_append_left _ (List.mem_append_left _ (List.mem_append_right _ h))))))) (by decide +kernel))) (goodIn_sub (fun _ h => List.mem_append_left _ (List.mem_append_left _ (List.mem_append_left _ (List.mem_append_left _ (List.mem_append_left _ (List.mem_append_right _ h)))))) (by decide +kernel))
set_option maxRecDepth 20000 in
theorem gL_law_L_addGroup : GoodIn wsL_law (va_wsS RL 121 yL_addGroup wsL_addGroup) := goodIn_app (goodIn_of _ (by decide +kernel)) ggL_law_L_addGroup
set_option maxRecDepth 20000 in
theorem ggL_law_X3_addGroup : GoodIn wsL_law wsX3_addGroup := goodIn_r _ [141, 142, 85, 86, 87, 5, 88, 89, 652, 653, 654, 655, 656, 657, 658, 659, 660, 661, 662, 663, 664, 665, 666, 667, 668, 669, 670] (by decide +kernel) (by decide +kernel)
set_option maxRecDepth 20000 in
theorem gL_law_X3_addGroup : GoodIn wsL_law (wsV RL 123 RX3 yX3_addGroup wsX3_addGroup) := goodIn_app (goodIn_of _ (by decide +kernel)) ggL_law_X3_addGroup
set_option maxRecDepth 20000 in
theorem ggL_law_L_join : GoodIn wsL_law wsL_join := goodIn_ca (goodIn_ca (goodIn_ca (goodIn_ca (goodIn_r _ [145, 97, 98, 146, 147, 148, 149, 2, 150, 151, 152, 24, 105, 106, 107, 108, 109, 110, 28, 153, 154, 155, 156, 137, 157, 158, 159, 160, 103, 104, 161, 162, 163, 164, 165, 29, 166, 167, 168, 169, 170, 171, 23, 172, 47, 46, 173, 174, 175, 176, 177, 178, 179, 180, 636, 637, 638, 639, 640, 641, 642, 643, 644, 645, 646, 647, 648, 649, 650, 651, 673, 674] (by decide +kernel) (by decide +kernel)) (goodIn_sub (fun _ h => List.mem_append_left _ (List.mem_append_left _ (List.mem_append_left _ (List.mem_append_left _ (List.mem_append_left _ (List.mem_append_left _ (List.mem_append_right _ h))))))) (by decide +kernel))) (goodIn_sub (fun _ h => List.mem_append_left _ (List.mem_append_left _ (List.mem_append_right _ h))) (by decide +kernel))) (goodIn_sub (fun _ h => List.mem_append_left _ (List.mem_append_left _ (List.mem_append_left _ (List.mem_append_right _ h)))) (by decide +kernel))) (goodIn_sub (fun _ h => List.mem_append_left _ (List.mem_append_left _ (List.mem_append_left _ (List.mem_append_left _ (List.mem_append_right _ h))))) (by decide +kernel))
set_option maxRecDepth 20000 in
theorem gL_law_L_join : GoodIn wsL_law (va_wsS RL 124 yL_join wsL_join) := goodIn_app (goodIn_of _ (by decide +kernel)) ggL_law_L_join
set_option maxRecDepth 20000 in
theorem ggL_law_X3_join : GoodIn wsL_law wsX3_join := goodIn_ca (goodIn_r _ [184, 54, 56, 123, 124, 125, 5, 126, 52, 127, 128, 129, 185, 186, 187, 188, 142, 189, 190, 191, 192, 193, 85, 86, 87, 88, 89, 194, 195, 196, 197, 652, 653, 654, 655, 656, 657, 658, 659, 660, 661, 662, 663, 664, 665, 666, 667, 668, 669, 670] (by decide +kernel) (by decide +kernel)) (goodIn_sub (fun _ h => List.mem_append_left _ (List.mem_append_left _ (List.mem_append_left _ (List.mem_append_left _ (List.mem_append_left _ (List.mem_append_left _ (List.mem_append_right _ h))))))) (by decide +kernel))
set_option maxRecDepth 20000 in
theorem gL_law_X3_join : GoodIn wsL_law (wsV RL 127 RX3 yX3_join wsX3_join) := goodIn_app (goodIn_of _ (by decide +kernel)) ggL_law_X3_join
set_option maxRecDepth 20000 in
theorem ggL_law_L_nest : GoodIn wsL_law wsL_nest := goodIn_ca (goodIn_ca (goodIn_ca (goodIn_ca (goodIn_r _ [200, 97, 98, 146, 201, 202, 203, 2, 204, 151, 152, 25, 153, 154, 155, 156, 109, 110, 137, 157, 158, 159, 160, 103, 104, 161, 78, 79, 80, 205, 206, 207, 208, 166, 167, 168, 209, 210, 211, 212, 213, 214, 215, 216, 217, 178, 179, 23, 180, 47, 46, 169, 170, 171, 172, 173, 174, 175, 176, 177, 636, 637, 638, 639, 640, 641, 642, 643, 644, 645, 646, 647, 648, 649, 650, 651, 673, 674] (by decide +kernel) (by decide +kernel)) (goodIn_sub (fun _ h => List.mem_append_left _ (List.mem_append_left _ (List.mem_append_left _ (List.mem_append_left _ (List.mem_append_left _ (List.mem_append_left _ (List.mem_append_right _ h))))))) (by decide +kernel))) (goodIn_sub (fun _ h => List.mem_append_left _ (List.mem_append_left _ (List.mem_append_right _ h))) (by decide +kernel))) (goodIn_sub (fun _ h => List.mem_append_left _ (List.mem_append_left _ (List.mem_append_left _ (List.mem_append_right _ h)))) (by decide +kernel))) (goodIn_sub (fun _ h => List.mem_append_left _ (List.mem_append_left _ (List.mem_append_left _ (List.mem_append_left _ (List.mem_append_right _ h))))) (by decide +kernel))
set_option maxRecDepth 20000 in
theorem gL_law_L_nest : GoodIn wsL_law (va_wsS RL 128 yL_nest wsL_nest) := goodIn_app (goodIn_of _ (by decide +kernel)) ggL_law_L_nest
set_option maxRecDepth 20000 in
theorem ggL_law_X3_nest : GoodIn wsL_law wsX3_nest := goodIn_ca (goodIn_r _ [221, 57, 142, 185, 186, 187, 5, 188, 127, 128, 129, 189, 190, 191, 192, 193, 222, 223, 224, 225, 226, 227, 228, 229, 85, 86, 87, 88, 89, 652, 653, 654, 655, 656, 657, 658, 659, 660, 661, 662, 663, 664, 665, 666, 667, 668, 669, 670] (by decide +kernel) (by decide +kernel)) (goodIn_sub (fun _ h => List.mem_append_left _ (List.mem_append_left _ (List.mem_append_left _ (List.mem_append_left _ (List.mem_append_left _ (List.mem_append_left _ (List.mem_append_right _ h))))))) (by decide +kernel))
set_option maxRecDepth 20000 in
theorem gL_law_X3_nest : GoodIn wsL_law (wsV RL 130 RX3 yX3_nest wsX3_nest) := goodIn_app (goodIn_of _ (by decide +kernel)) ggL_law_X3_nest
set_option maxRecDepth 20000 in
theorem ggL_law_L_drop : GoodIn wsL_law wsL_drop := goodIn_ca (goodIn_ca (goodIn_ca (goodIn_r _ [232, 97, 233, 234, 235, 236, 2, 237, 238, 239, 24, 105, 106, 107, 108, 109, 110, 28, 153, 154, 155, 156, 137, 240, 241, 242, 243, 217, 178, 179, 23, 180, 47, 46, 169, 170, 171, 172, 173, 174, 175, 176, 177, 636, 637, 638, 639, 640, 641, 642, 643, 644, 645, 646, 647, 648, 649, 650, 651, 673, 674] (by decide +kernel) (by decide +kernel)) (goodIn_sub (fun _ h => List.mem_append_left _ (List.mem_append_left _ (List.mem_append_left _ (List.mem_append_left _ (List.mem_append_left _ (List.mem_append_left _ (List.mem_append_right _ h))))))) (by decide +kernel))) (goodIn_sub (fun _ h => List.mem_append_left _ (List.mem_append_right _ h)) (by decide +kernel))) (goodIn_sub (fun _ h => List.mem_append_left _ (List.mem_append_left _ (List.mem_append_left _ (List.mem_append_right _ h)))) (by decide +kernel))
set_option maxRecDepth 20000 in
theorem gL_law_L_drop : GoodIn wsL_law (va_wsS RL 131 yL_drop wsL_drop) := goodIn_app (goodIn_of _ (by decide +kernel)) ggL_law_L_drop
set_option maxRecDepth 20000 in
theorem ggL_law_X3_drop : GoodIn wsL_law wsX3_drop := goodIn_ca (goodIn_r _ [247, 56, 123, 124, 125, 5, 126, 52, 127, 128, 129, 185, 186, 187, 188, 142, 85, 86, 87, 88, 89, 194, 195, 196, 197, 652, 653, 654, 655, 656, 657, 658, 659, 660, 661, 662, 663, 664, 665, 666, 667, 668, 669, 670] (by decide +kernel) (by decide +kernel)) (goodIn_sub (fun _ h => List.mem_append_left _ (List.mem_append_left _ (List.mem_append_left _ (List.mem_append_left _ (List.mem_append_left _ (List.mem_append_left _ (List.mem_append_right _ h))))))) (by decide +kernel))
set_option maxRecDepth 20000 in
theorem gL_law_X3_drop : GoodIn wsL_law (wsV RL 133 RX3 yX3_drop wsX3_drop) := goodIn_app (goodIn_of _ (by decide +kernel)) ggL_law_X3_drop
set_option maxRecDepth 20000 in
theorem ggL_law_L_isIn : GoodIn wsL_law wsL_isIn := goodIn_ca (goodIn_ca (goodIn_r _ [250, 97, 251, 252, 253, 2, 254, 105, 106, 107, 108, 109, 110, 28, 153, 154, 155, 156, 137, 255, 256, 257, 258, 240, 241, 242, 243, 24, 217, 178, 179, 23, 180, 47, 46, 78, 79, 80, 205, 206, 207, 208, 166, 167, 168, 209, 210, 211, 212, 213, 214, 215, 216, 25, 636, 637, 638, 639, 640, 641, 642, 643, 644, 645, 646, 647, 648, 649, 650, 651, 673, 674] (by decide +kernel) (by decide +kernel)) (goodIn_sub (fun _ h => List.mem_append_left _ (List.mem_append_left _ (List.mem_append_left _ (List.mem_append_left _ (List.mem_append_left _ (List.mem_append_left _ (List.mem_append_right _ h))))))) (by decide +kernel))) (goodIn_sub (fun _ h => List.mem_append_left _ (List.mem_append_left _ (List.mem_append_left _ (List.mem_append_right _ h)))) (by decide +kernel))
set_option maxRecDepth 20000 in
theorem gL_law_L_isIn : GoodIn wsL_law (va_wsS RL 134 yL_isIn wsL_isIn) := goodIn_app (goodIn_of _ (by decide +kernel)) ggL_law_L_isIn
set_option maxRecDepth 20000 in
theorem ggL_law_X3_isIn : GoodIn wsL_law wsX3_isIn := goodIn_ca (goodIn_r _ [262, 123, 124, 125, 5, 126, 52, 127, 128, 129, 185, 186, 187, 188, 142, 85, 86, 87, 88, 89, 263, 264, 265, 266, 56, 222, 223, 224, 225, 226, 227, 228, 229, 57, 652, 653, 654, 655, 656, 657, 658, 659, 660, 661, 662, 663, 664, 665, 666, 667, 668, 669, 670] (by decide +kernel) (by decide +kernel)) (goodIn_sub (fun _ h => List.mem_append_left _ (List.mem_append_left _ (List.mem_append_left _ (List.mem_append_left _ (List.mem_append_left _ (List.mem_append_left _ (List.mem_append_right _ h))))))) (by decide +kernel))
set_option maxRecDepth 20000 in
theorem gL_law_X3_isIn : GoodIn wsL_law (wsV RL 136 RX3 yX3_isIn wsX3_isIn) := goodIn_app (goodIn_of _ (by decide +kernel)) ggL_law_X3_isIn
set_option maxRecDepth 20000 in
theorem ggL_law_X2_memberships : GoodIn wsL_law wsX2_memberships := goodIn_ca (goodIn_r _ [270, 137, 24, 25, 173, 174, 175, 23, 176, 47, 177, 178, 179, 180, 46, 636, 637, 638, 639, 640, 641, 642, 643, 644, 645, 646, 647, 648, 649, 650, 651, 673, 674] (by decide +kernel) (by decide +kernel)) (goodIn_sub (fun _ h => List.mem_append_left _ (List.mem_append_left _ (List.mem_append_left _ (List.mem_append_left _ (List.mem_append_left _ (List.mem_append_left _ (List.mem_append_right _ h))))))) (by decide +kernel))
set_option maxRecDepth 20000 in
theorem gL_law_X2_memberships : GoodIn wsL_law (wsV RL 137 RX2 yX2_memberships wsX2_memberships) := goodIn_app (goodIn_of _ (by decide +kernel)) ggL_law_X2_memberships
set_option maxRecDepth 20000 in
theorem ggL_law_X3_memberships : GoodIn wsL_law wsX3_memberships := goodIn_ca (goodIn_r _ [274, 89, 56, 57, 652, 653, 654, 655, 656, 657, 658, 659, 660, 661, 662, 663, 664, 665, 666, 667, 668, 669, 670] (by decide +kernel) (by decide +kernel)) (goodIn_sub (fun _ h => List.mem_append_left _ (List.mem_append_left _ (List.mem_append_left _ (List.mem_append_left _ (List.mem_append_left _ (List.mem_append_left _ (List.mem_append_right _ h))))))) (by decide +kernel))
set_option maxRecDepth 20000 in
theorem gL_law_X3_memberships : GoodIn wsL_law (wsV RL 140 RX3 yX3_memberships wsX3_memberships) := goodIn_app (goodIn_of _ (by decide +kernel)) ggL_law_X3_memberships
set_option maxRecDepth 20000 in
theorem ggL_law_L_addFolder : GoodIn wsL_law wsL_addFolder := goodIn_ca (goodIn_ca (goodIn_ca (goodIn_ca (goodIn_r _ [277, 97, 146, 71, 278, 279, 280, 2, 281, 151, 152, 76, 77, 282, 18, 19, 105, 106, 107, 108, 109, 110, 28, 283, 284, 285, 286, 162, 163, 164, 165, 29, 166, 167, 168, 115, 116, 117, 16, 118, 39, 636, 637, 638, 639, 640, 641, 642, 643, 644, 645, 646, 647, 648, 649, 650, 651, 671, 672] (by decide +kernel) (by decide +kernel)) (goodIn_sub (fun _ h => List.mem_append_left _ (List.mem_append_left _ (List.mem_append_left _ (List.mem_append_left _ (List.mem_append_left _ (List.mem_append_left _ (List.mem_append_right _ h))))))) (by decide +kernel))) (goodIn_sub (fun _ h => List.mem_append_left _ (List.mem_append_left _ (List.mem_append_right _ h))) (by decide +kernel))) (goodIn_sub (fun _ h => List.mem_append_left _ (List.mem_append_left _ (List.mem_append_left _ (List.mem_append_left _ (List.mem_append_left _ (List.mem_append_right _ h)))))) (by decide +kernel))) (goodIn_sub (fun _ h => List.mem_append_left _ (List.mem_append_left _ (List.mem_append_left _ (List.mem_append_right _ h)))) (by decide +kernel))
set_option maxRecDepth 20000 in
theorem gL_law_L_addFolder : GoodIn wsL_law (va_wsS RL 141 yL_addFolder wsL_addFolder) := goodIn_app (goodIn_of _ (by decide +kernel)) ggL_law_L_addFolder
set_option maxRecDepth 20000 in
theorem ggL_law_X3_addFolder : GoodIn wsL_law wsX3_addFolder := goodIn_ca (goodIn_r _ [290, 54, 291, 59, 60, 123, 124, 125, 5, 126, 52, 127, 128, 129, 292, 293, 294, 295, 85, 86, 87, 88, 89, 652, 653, 654, 655, 656, 657, 658, 659, 660, 661, 662, 663, 664, 665, 666, 667, 668, 669, 670] (by decide +kernel) (by decide +kernel)) (goodIn_sub (fun _ h => List.mem_append_left _ (List.mem_append_left _ (List.mem_append_left _ (List.mem_append_left _ (List.mem_append_left _ (List.mem_append_left _ (List.mem_append_right _ h))))))) (by decide +kernel))
set_option maxRecDepth 20000 in
theorem gL_law_X3_addFolder : GoodIn wsL_law (wsV RL 143 RX3 yX3_addFolder wsX3_addFolder) := goodIn_app (goodIn_of _ (by decide +kernel)) ggL_law_X3_addFolder
set_option maxRecDepth 20000 in
theorem ggL_law_L_shareWith : GoodIn wsL_law wsL_shareWith := goodIn_ca (goodIn_ca (goodIn_ca (goodIn_ca (goodIn_r _ [298, 97, 98, 71, 299, 300, 301, 2, 302, 26, 283, 284, 285, 286, 109, 110, 282, 105, 106, 107, 108, 28, 303, 304, 305, 103, 104, 306, 307, 308, 309, 76, 77, 310, 311, 312, 313, 314, 166, 167, 168, 169, 170, 171, 23, 172, 47, 46, 315, 316, 317, 318, 27, 173, 174, 175, 176, 177, 178, 179, 180, 636, 637, 638, 639, 640, 641, 642, 643, 644, 645, 646, 647, 648, 649, 650, 651, 673, 674] (by decide +kernel) (by decide +kernel)) (goodIn_sub (fun _ h => List.mem_append_left _ (List.mem_append_left _ (List.mem_append_left _ (List.mem_append_left _ (List.mem_append_left _ (List.mem_append_left _ (List.mem_append_right _ h))))))) (by decide +kernel))) (goodIn_sub (fun _ h => List.mem_append_left _ (List.mem_append_left _ (List.mem_append_left _ (List.mem_append_right _ h)))) (by decide +kernel))) (goodIn_sub (fun _ h => List.mem_append_left _ (List.mem_append_left _ (List.mem_append_left _ (List.mem_append_left _ (List.mem_append_right _ h))))) (by decide +kernel))) (goodIn_sub (fun _ h => List.mem_append_left _ (List.mem_append_left _ (List.mem_append_left _ (List.mem_append_left _ (List.mem_append_left _ (List.mem_append_right _ h)))))) (by decide +kernel))
set_option maxRecDepth 20000 in
theorem gL_law_L_shareWith : GoodIn wsL_law (va_wsS RL 144 yL_shareWith wsL_shareWith) := goodIn_app (goodIn_of _ (by decide +kernel)) ggL_law_L_shareWith
set_option maxRecDepth 20000 in
theorem ggL_law_X3_shareWith : GoodIn wsL_law wsX3_shareWith := goodIn_ca (goodIn_r _ [322, 63, 292, 293, 294, 5, 295, 291, 127, 128, 129, 123, 124, 125, 126, 52, 323, 324, 325, 326, 62, 85, 86, 87, 88, 89, 327, 328, 329, 330, 64, 652, 653, 654, 655, 656, 657, 658, 659, 660, 661, 662, 663, 664, 665, 666, 667, 668, 669, 670] (by decide +kernel) (by decide +kernel)) (goodIn_sub (fun _ h => List.mem_append_left _ (List.mem_append_left _ (List.mem_append_left _ (List.mem_append_left _ (List.mem_append_left _ (List.mem_append_left _ (List.mem_append_right _ h))))))) (by decide +kernel))
set_option maxRecDepth 20000 in
theorem gL_law_X3_shareWith : GoodIn wsL_law (wsV RL 146 RX3 yX3_shareWith wsX3_shareWith) := goodIn_app (goodIn_of _ (by decide +kernel)) ggL_law_X3_shareWith
set_option maxRecDepth 20000 in
theorem ggL_law_L_shareWithGroup : GoodIn wsL_law wsL_shareWithGroup := goodIn_ca (goodIn_ca (goodIn_ca (goodIn_ca (goodIn_r _ [333, 97, 98, 71, 334, 335, 336, 2, 337, 27, 283, 284, 285, 286, 109, 110, 282, 153, 154, 155, 156, 137, 303, 304, 305, 103, 104, 306, 307, 308, 309, 76, 77, 310, 311, 312, 313, 314, 166, 167, 168, 169, 170, 171, 23, 172, 47, 46, 315, 316, 317, 318, 26, 173, 174, 175, 176, 177, 178, 179, 180, 636, 637, 638, 639, 640, 641, 642, 643, 644, 645, 646, 647, 648, 649, 650, 651, 673, 674] (by decide +kernel) (by decide +kernel)) (goodIn_sub (fun _ h => List.mem_append_left _ (List.mem_append_left _ (List.mem_append_left _ (List.mem_append_left _ (List.mem_append_left _ (List.mem_append_left _ (List.mem_append_right _ h))))))) (by decide +kernel))) (goodIn_sub (fun _ h => List.mem_append_left _ (List.mem_append_left _ (List.mem_append_left _ (List.mem_append_right _ h)))) (by decide +kernel))) (goodIn_sub (fun _ h => List.mem_append_left _ (List.mem_append_left _ (List.mem_append_left _ (List.mem_append_left _ (List.mem_append_right _ h))))) (by decide +kernel))) (goodIn_sub (fun _ h => List.mem_append_left _ (List.mem_append_left _ (List.mem_append_left _ (List.mem_append_left _ (List.mem_append_left _ (List.mem_append_right _ h)))))) (by decide +kernel))
set_option maxRecDepth 20000 in
theorem gL_law_L_shareWithGroup : GoodIn wsL_law (va_wsS RL 147 yL_shareWithGroup wsL_shareWithGroup) := goodIn_app (goodIn_of _ (by decide +kernel)) ggL_law_L_shareWithGroup
set_option maxRecDepth 20000 in
theorem ggL_law_X3_shareWithGroup : GoodIn wsL_law wsX3_shareWithGroup := goodIn_ca (goodIn_r _ [341, 64, 292, 293, 294, 5, 295, 291, 127, 128, 129, 185, 186, 187, 188, 142, 323, 324, 325, 326, 62, 85, 86, 87, 88, 89, 327, 328, 329, 330, 63, 652, 653, 654, 655, 656, 657, 658, 659, 660, 661, 662, 663, 664, 665, 666, 667, 668, 669, 670] (by decide +kernel) (by decide +kernel)) (goodIn_sub (fun _ h => List.mem_append_left _ (List.mem_append_left _ (List.mem_append_left _ (List.mem_append_left _ (List.mem_append_left _ (List.mem_append_left _ (List.mem_append_right _ h))))))) (by decide +kernel))
set_option maxRecDepth 20000 in
theorem gL_law_X3_shareWithGroup : GoodIn wsL_law (wsV RL 149 RX3 yX3_shareWithGroup wsX3_shareWithGroup) := goodIn_app (goodIn_of _ (by decide +kernel)) ggL_law_X3_shareWithGroup
set_option maxRecDepth 20000 in
theorem ggL_law_L_setBroken : GoodIn wsL_law wsL_setBroken := goodIn_ca (goodIn_ca (goodIn_ca (goodIn_r _ [344, 97, 71, 345, 346, 347, 2, 348, 349, 283, 284, 285, 286, 109, 110, 282, 306, 307, 308, 309, 76, 77, 310, 311, 312, 313, 314, 166, 167, 168, 78, 79, 80, 350, 351, 352, 636, 637, 638, 639, 640, 641, 642, 643, 644, 645, 646, 647, 648, 649, 650, 651] (by decide +kernel) (by decide +kernel)) (goodIn_sub (fun _ h => List.mem_append_left _ (List.mem_append_left _ (List.mem_append_left _ (List.mem_append_left _ (List.mem_append_left _ (List.mem_append_left _ (List.mem_append_right _ h))))))) (by decide +kernel))) (goodIn_sub (fun _ h => List.mem_append_left _ (List.mem_append_left _ (List.mem_append_left _ (List.mem_append_right _ h)))) (by decide +kernel))) (goodIn_sub (fun _ h => List.mem_append_left _ (List.mem_append_left _ (List.mem_append_left _ (List.mem_append_left _ (List.mem_append_left _ (List.mem_append_right _ h)))))) (by decide +kernel))
set_option maxRecDepth 20000 in
theorem gL_law_L_setBroken : GoodIn wsL_law (va_wsS RL 150 yL_setBroken wsL_setBroken) := goodIn_app (goodIn_of _ (by decide +kernel)) ggL_law_L_setBroken
set_option maxRecDepth 20000 in
theorem ggL_law_X3_setBroken : GoodIn wsL_law wsX3_setBroken := goodIn_ca (goodIn_r _ [356, 62, 61, 292, 293, 294, 5, 295, 291, 127, 128, 129, 85, 86, 87, 88, 89, 652, 653, 654, 655, 656, 657, 658, 659, 660, 661, 662, 663, 664, 665, 666, 667, 668, 669, 670] (by decide +kernel) (by decide +kernel)) (goodIn_sub (fun _ h => List.mem_append_left _ (List.mem_append_left _ (List.mem_append_left _ (List.mem_append_left _ (List.mem_append_left _ (List.mem_append_left _ (List.mem_append_right _ h))))))) (by decide +kernel))
set_option maxRecDepth 20000 in
theorem gL_law_X3_setBroken : GoodIn wsL_law (wsV RL 153 RX3 yX3_setBroken wsX3_setBroken) := goodIn_app (goodIn_of _ (by decide +kernel)) ggL_law_X3_setBroken
set_option maxRecDepth 20000 in
theorem ggL_law_L_owner : GoodIn wsL_law wsL_owner := goodIn_ca (goodIn_ca (goodIn_r _ [359, 97, 360, 361, 362, 2, 363, 18, 283, 284, 285, 286, 109, 110, 282, 111, 112, 113, 16, 114, 39, 40, 636, 637, 638, 639, 640, 641, 642, 643, 644, 645, 646, 647, 648, 649, 650, 651, 671, 672] (by decide +kernel) (by decide +kernel)) (goodIn_sub (fun _ h => List.mem_append_left _ (List.mem_append_left _ (List.mem_append_left _ (List.mem_append_left _ (List.mem_append_left _ (List.mem_append_left _ (List.mem_append_right _ h))))))) (by decide +kernel))) (goodIn_sub (fun _ h => List.mem_append_left _ (List.mem_append_left _ (List.mem_append_left _ (List.mem_append_right _ h)))) (by decide +kernel))
set_option maxRecDepth 20000 in
theorem gL_law_L_owner : GoodIn wsL_law (va_wsS RL 154 yL_owner wsL_owner) := goodIn_app (goodIn_of _ (by decide +kernel)) ggL_law_L_owner
set_option maxRecDepth 20000 in
theorem ggL_law_X3_owner : GoodIn wsL_law wsX3_owner := goodIn_ca (goodIn_r _ [367, 59, 292, 293, 294, 5, 295, 291, 127, 128, 129, 85, 86, 87, 88, 89, 652, 653, 654, 655, 656, 657, 658, 659, 660, 661, 662, 663, 664, 665, 666, 667, 668, 669, 670] (by decide +kernel) (by decide +kernel)) (goodIn_sub (fun _ h => List.mem_append_left _ (List.mem_append_left _ (List.mem_append_left _ (List.mem_append_left _ (List.mem_append_left _ (List.mem_append_left _ (List.mem_append_right _ h))))))) (by decide +kernel))
set_option maxRecDepth 20000 in
theorem gL_law_X3_owner : GoodIn wsL_law (wsV RL 157 RX3 yX3_owner wsX3_owner) := goodIn_app (goodIn_of _ (by decide +kernel)) ggL_law_X3_owner
set_option maxRecDepth 20000 in
theorem ggL_law_L_right : GoodIn wsL_law wsL_right := goodIn_ca (goodIn_ca (goodIn_r _ [370, 97, 371, 372, 373, 2, 374, 105, 106, 107, 108, 109, 110, 28, 283, 284, 285, 286, 282, 255, 256, 257, 258, 137, 240, 241, 242, 243, 24, 217, 178, 179, 23, 180, 47, 46, 78, 79, 80, 205, 206, 207, 208, 166, 167, 168, 209, 210, 211, 212, 213, 214, 215, 216, 25, 375, 376, 377, 378, 18, 379, 35, 36, 37, 162, 163, 164, 165, 29, 111, 112, 113, 16, 114, 39, 40, 380, 381, 382, 383, 26, 27, 384, 385, 386, 387, 349, 19, 636, 637, 638, 639, 640, 641, 642, 643, 644, 645, 646, 647, 648, 649, 650, 651, 673, 674, 671, 672] (by decide +kernel) (by decide +kernel)) (goodIn_sub (fun _ h => List.mem_append_left _ (List.mem_append_left _ (List.mem_append_left _ (List.mem_append_left _ (List.mem_append_left _ (List.mem_append_left _ (List.mem_append_right _ h))))))) (by decide +kernel))) (goodIn_sub (fun _ h => List.mem_append_left _ (List.mem_append_left _ (List.mem_append_left _ (List.mem_append_right _ h)))) (by decide +kernel))
set_option maxRecDepth 20000 in
theorem gL_law_L_right : GoodIn wsL_law (va_wsS RL 158 yL_right wsL_right) := goodIn_app (goodIn_of _ (by decide +kernel)) ggL_law_L_right
set_option maxRecDepth 20000 in
theorem ggL_law_X3_right : GoodIn wsL_law wsX3_right := goodIn_ca (goodIn_r _ [391, 392, 393, 394, 5, 395, 123, 124, 125, 126, 52, 127, 128, 129, 292, 293, 294, 295, 291, 85, 86, 87, 88, 89, 396, 397, 398, 399, 54, 59, 142, 58, 63, 64, 61, 60, 263, 264, 265, 266, 56, 222, 223, 224, 225, 226, 227, 228, 229, 57, 652, 653, 654, 655, 656, 657, 658, 659, 660, 661, 662, 663, 664, 665, 666, 667, 668, 669, 670] (by decide +kernel) (by decide +kernel)) (goodIn_sub (fun _ h => List.mem_append_left _ (List.mem_append_left _ (List.mem_append_left _ (List.mem_append_left _ (List.mem_append_left _ (List.mem_append_left _ (List.mem_append_right _ h))))))) (by decide +kernel))
set_option maxRecDepth 20000 in
theorem gL_law_X3_right : GoodIn wsL_law (wsV RL 160 RX3 yX3_right wsX3_right) := goodIn_app (goodIn_of _ (by decide +kernel)) ggL_law_X3_right
set_option maxRecDepth 20000 in
theorem ggL_law_L_rightByWalking : GoodIn wsL_law wsL_rightByWalking := goodIn_ca (goodIn_ca (goodIn_r _ [402, 97, 403, 404, 405, 2, 406, 18, 105, 106, 107, 108, 109, 110, 28, 283, 284, 285, 286, 282, 162, 163, 164, 165, 29, 166, 167, 168, 111, 112, 113, 16, 114, 39, 40, 407, 408, 409, 410, 379, 35, 36, 37, 384, 385, 386, 387, 349, 19, 411, 412, 413, 414, 26, 137, 27, 217, 178, 179, 23, 180, 47, 46, 415, 416, 417, 418, 240, 241, 242, 243, 24, 213, 214, 215, 216, 25, 636, 637, 638, 639, 640, 641, 642, 643, 644, 645, 646, 647, 648, 649, 650, 651, 671, 672, 673, 674] (by decide +kernel) (by decide +kernel)) (goodIn_sub (fun _ h => List.mem_append_left _ (List.mem_append_left _ (List.mem_append_left _ (List.mem_append_left _ (List.mem_append_left _ (List.mem_append_left _ (List.mem_append_right _ h))))))) (by decide +kernel))) (goodIn_sub (fun _ h => List.mem_append_left _ (List.mem_append_left _ (List.mem_append_left _ (List.mem_append_right _ h)))) (by decide +kernel))
set_option maxRecDepth 20000 in
theorem gL_law_L_rightByWalking : GoodIn wsL_law (va_wsS RL 161 yL_rightByWalking wsL_rightByWalking) := goodIn_app (goodIn_of _ (by decide +kernel)) ggL_law_L_rightByWalking
set_option maxRecDepth 20000 in
theorem ggL_law_X3_rightByWalking : GoodIn wsL_law wsX3_rightByWalking := goodIn_ca (goodIn_r _ [422, 392, 393, 394, 5, 395, 123, 124, 125, 126, 52, 127, 128, 129, 292, 293, 294, 295, 291, 85, 86, 87, 88, 89, 396, 397, 398, 399, 54, 59, 142, 58, 63, 64, 61, 60, 263, 264, 265, 266, 56, 222, 223, 224, 225, 226, 227, 228, 229, 57, 652, 653, 654, 655, 656, 657, 658, 659, 660, 661, 662, 663, 664, 665, 666, 667, 668, 669, 670] (by decide +kernel) (by decide +kernel)) (goodIn_sub (fun _ h => List.mem_append_left _ (List.mem_append_left _ (List.mem_append_left _ (List.mem_append_left _ (List.mem_append_left _ (List.mem_append_left _ (List.mem_append_right _ h))))))) (by decide +kernel))
set_option maxRecDepth 20000 in
theorem gL_law_X3_rightByWalking : GoodIn wsL_law (wsV RL 163 RX3 yX3_rightByWalking wsX3_rightByWalking) := goodIn_app (goodIn_of _ (by decide +kernel)) ggL_law_X3_rightByWalking
set_option maxRecDepth 20000 in
theorem ggL_law_L_holders : GoodIn wsL_law wsL_holders := goodIn_ca (goodIn_ca (goodIn_ca (goodIn_r _ [425, 97, 98, 426, 427, 428, 2, 429, 28, 283, 284, 285, 286, 109, 110, 282, 303, 304, 305, 103, 104, 255, 256, 257, 258, 137, 240, 241, 242, 243, 24, 217, 178, 179, 23, 180, 47, 46, 78, 79, 80, 205, 206, 207, 208, 166, 167, 168, 209, 210, 211, 212, 213, 214, 215, 216, 25, 375, 376, 377, 378, 18, 379, 35, 36, 37, 162, 163, 164, 165, 29, 111, 112, 113, 16, 114, 39, 40, 380, 381, 382, 383, 26, 27, 384, 385, 386, 387, 349, 19, 636, 637, 638, 639, 640, 641, 642, 643, 644, 645, 646, 647, 648, 649, 650, 651, 673, 674, 671, 672] (by decide +kernel) (by decide +kernel)) (goodIn_sub (fun _ h => List.mem_append_left _ (List.mem_append_left _ (List.mem_append_left _ (List.mem_append_left _ (List.mem_append_left _ (List.mem_append_left _ (List.mem_append_right _ h))))))) (by decide +kernel))) (goodIn_sub (fun _ h => List.mem_append_left _ (List.mem_append_left _ (List.mem_append_left _ (List.mem_append_right _ h)))) (by decide +kernel))) (goodIn_sub (fun _ h => List.mem_append_left _ (List.mem_append_left _ (List.mem_append_left _ (List.mem_append_left _ (List.mem_append_right _ h))))) (by decide +kernel))
set_option maxRecDepth 20000 in
theorem gL_law_L_holders : GoodIn wsL_law (va_wsS RL 164 yL_holders wsL_holders) := goodIn_app (goodIn_of _ (by decide +kernel)) ggL_law_L_holders
set_option maxRecDepth 20000 in
theorem ggL_law_X3_holders : GoodIn wsL_law wsX3_holders := goodIn_ca (goodIn_r _ [433, 52, 292, 293, 294, 5, 295, 291, 127, 128, 129, 85, 86, 87, 88, 89, 396, 397, 398, 399, 54, 59, 142, 58, 63, 64, 61, 60, 263, 264, 265, 266, 56, 222, 223, 224, 225, 226, 227, 228, 229, 57, 652, 653, 654, 655, 656, 657, 658, 659, 660, 661, 662, 663, 664, 665, 666, 667, 668, 669, 670] (by decide +kernel) (by decide +kernel)) (goodIn_sub (fun _ h => List.mem_append_left _ (List.mem_append_left _ (List.mem_append_left _ (List.mem_append_left _ (List.mem_append_left _ (List.mem_append_left _ (List.mem_append_right _ h))))))) (by decide +kernel))
set_option maxRecDepth 20000 in
theorem gL_law_X3_holders : GoodIn wsL_law (wsV RL 166 RX3 yX3_holders wsX3_holders) := goodIn_app (goodIn_of _ (by decide +kernel)) ggL_law_X3_holders
set_option maxRecDepth 20000 in
theorem ggL_law_L_addRoom : GoodIn wsL_law wsL_addRoom := goodIn_ca (goodIn_ca (goodIn_ca (goodIn_r _ [436, 97, 71, 437, 438, 439, 2, 440, 76, 77, 441, 20, 153, 154, 155, 156, 109, 110, 137, 115, 116, 117, 16, 118, 39, 636, 637, 638, 639, 640, 641, 642, 643, 644, 645, 646, 647, 648, 649, 650, 651, 671, 672] (by decide +kernel) (by decide +kernel)) (goodIn_sub (fun _ h => List.mem_append_left _ (List.mem_append_left _ (List.mem_append_left _ (List.mem_append_left _ (List.mem_append_left _ (List.mem_append_left _ (List.mem_append_right _ h))))))) (by decide +kernel))) (goodIn_sub (fun _ h => List.mem_append_left _ (List.mem_append_left _ (List.mem_append_left _ (List.mem_append_left _ (List.mem_append_left _ (List.mem_append_right _ h)))))) (by decide +kernel))) (goodIn_sub (fun _ h => List.mem_append_left _ (List.mem_append_left _ (List.mem_append_left _ (List.mem_append_right _ h)))) (by decide +kernel))
set_option maxRecDepth 20000 in
theorem gL_law_L_addRoom : GoodIn wsL_law (va_wsS RL 167 yL_addRoom wsL_addRoom) := goodIn_app (goodIn_of _ (by decide +kernel)) ggL_law_L_addRoom
set_option maxRecDepth 20000 in
theorem ggL_law_X3_addRoom : GoodIn wsL_law wsX3_addRoom := goodIn_ca (goodIn_r _ [445, 446, 65, 185, 186, 187, 5, 188, 142, 127, 128, 129, 85, 86, 87, 88, 89, 652, 653, 654, 655, 656, 657, 658, 659, 660, 661, 662, 663, 664, 665, 666, 667, 668, 669, 670] (by decide +kernel) (by decide +kernel)) (goodIn_sub (fun _ h => List.mem_append_left _ (List.mem_append_left _ (List.mem_append_left _ (List.mem_append_left _ (List.mem_append_left _ (List.mem_append_left _ (List.mem_append_right _ h))))))) (by decide +kernel))
set_option maxRecDepth 20000 in
theorem gL_law_X3_addRoom : GoodIn wsL_law (wsV RL 169 RX3 yX3_addRoom wsX3_addRoom) := goodIn_app (goodIn_of _ (by decide +kernel)) ggL_law_X3_addRoom
set_option maxRecDepth 20000 in
theorem ggL_law_L_reads : GoodIn wsL_law wsL_reads := goodIn_ca (goodIn_ca (goodIn_r _ [449, 97, 450, 451, 452, 2, 453, 20, 105, 106, 107, 108, 109, 110, 28, 454, 455, 456, 457, 441, 111, 112, 113, 16, 114, 39, 40, 162, 163, 164, 165, 29, 166, 167, 168, 255, 256, 257, 258, 137, 240, 241, 242, 243, 24, 217, 178, 179, 23, 180, 47, 46, 78, 79, 80, 205, 206, 207, 208, 209, 210, 211, 212, 213, 214, 215, 216, 25, 458, 459, 460, 461, 636, 637, 638, 639, 640, 641, 642, 643, 644, 645, 646, 647, 648, 649, 650, 651, 671, 672, 673, 674] (by decide +kernel) (by decide +kernel)) (goodIn_sub (fun _ h => List.mem_append_left _ (List.mem_append_left _ (List.mem_append_left _ (List.mem_append_left _ (List.mem_append_left _ (List.mem_append_left _ (List.mem_append_right _ h))))))) (by decide +kernel))) (goodIn_sub (fun _ h => List.mem_append_left _ (List.mem_append_left _ (List.mem_append_left _ (List.mem_append_right _ h)))) (by decide +kernel))
set_option maxRecDepth 20000 in
theorem gL_law_L_reads : GoodIn wsL_law (va_wsS RL 170 yL_reads wsL_reads) := goodIn_app (goodIn_of _ (by decide +kernel)) ggL_law_L_reads
set_option maxRecDepth 20000 in
theorem ggL_law_X3_reads : GoodIn wsL_law wsX3_reads := goodIn_ca (goodIn_r _ [465, 54, 65, 123, 124, 125, 5, 126, 52, 127, 128, 129, 466, 467, 468, 469, 446, 85, 86, 87, 88, 89, 470, 471, 472, 473, 263, 264, 265, 266, 142, 56, 222, 223, 224, 225, 226, 227, 228, 229, 57, 652, 653, 654, 655, 656, 657, 658, 659, 660, 661, 662, 663, 664, 665, 666, 667, 668, 669, 670] (by decide +kernel) (by decide +kernel)) (goodIn_sub (fun _ h => List.mem_append_left _ (List.mem_append_left _ (List.mem_append_left _ (List.mem_append_left _ (List.mem_append_left _ (List.mem_append_left _ (List.mem_append_right _ h))))))) (by decide +kernel))
set_option maxRecDepth 20000 in
theorem gL_law_X3_reads : GoodIn wsL_law (wsV RL 172 RX3 yX3_reads wsX3_reads) := goodIn_app (goodIn_of _ (by decide +kernel)) ggL_law_X3_reads
set_option maxRecDepth 20000 in
theorem ggL_law_L_readers : GoodIn wsL_law wsL_readers := goodIn_ca (goodIn_ca (goodIn_r _ [476, 97, 477, 478, 479, 2, 480, 20, 454, 455, 456, 457, 109, 110, 441, 111, 112, 113, 16, 114, 39, 40, 458, 459, 460, 461, 28, 162, 163, 164, 165, 29, 166, 167, 168, 255, 256, 257, 258, 137, 240, 241, 242, 243, 24, 217, 178, 179, 23, 180, 47, 46, 78, 79, 80, 205, 206, 207, 208, 209, 210, 211, 212, 213, 214, 215, 216, 25, 636, 637, 638, 639, 640, 641, 642, 643, 644, 645, 646, 647, 648, 649, 650, 651, 671, 672, 673, 674] (by decide +kernel) (by decide +kernel)) (goodIn_sub (fun _ h => List.mem_append_left _ (List.mem_append_left _ (List.mem_append_left _ (List.mem_append_left _ (List.mem_append_left _ (List.mem_append_left _ (List.mem_append_right _ h))))))) (by decide +kernel))) (goodIn_sub (fun _ h => List.mem_append_left _ (List.mem_append_left _ (List.mem_append_left _ (List.mem_append_right _ h)))) (by decide +kernel))
set_option maxRecDepth 20000 in
theorem gL_law_L_readers : GoodIn wsL_law (va_wsS RL 173 yL_readers wsL_readers) := goodIn_app (goodIn_of _ (by decide +kernel)) ggL_law_L_readers
set_option maxRecDepth 20000 in
theorem ggL_law_X3_readers : GoodIn wsL_law wsX3_readers := goodIn_ca (goodIn_r _ [484, 466, 467, 468, 5, 469, 446, 127, 128, 129, 85, 86, 87, 88, 89, 470, 471, 472, 473, 52, 54, 65, 263, 264, 265, 266, 142, 56, 222, 223, 224, 225, 226, 227, 228, 229, 57, 652, 653, 654, 655, 656, 657, 658, 659, 660, 661, 662, 663, 664, 665, 666, 667, 668, 669, 670] (by decide +kernel) (by decide +kernel)) (goodIn_sub (fun _ h => List.mem_append_left _ (List.mem_append_left _ (List.mem_append_left _ (List.mem_append_left _ (List.mem_append_left _ (List.mem_append_left _ (List.mem_append_right _ h))))))) (by decide +kernel))
set_option maxRecDepth 20000 in
theorem gL_law_X3_readers : GoodIn wsL_law (wsV RL 175 RX3 yX3_readers wsX3_readers) := goodIn_app (goodIn_of _ (by decide +kernel)) ggL_law_X3_readers
set_option maxRecDepth 20000 in
theorem ggL_law_L_keeper : GoodIn wsL_law wsL_keeper := goodIn_ca (goodIn_ca (goodIn_r _ [487, 97, 488, 489, 490, 2, 491, 283, 284, 285, 286, 109, 110, 282, 492, 493, 494, 495, 18, 111, 112, 113, 16, 114, 39, 40, 496, 497, 498, 499, 17, 162, 163, 164, 165, 29, 166, 167, 168, 500, 501, 502, 503, 19, 504, 505, 506, 507, 310, 311, 312, 313, 314, 636, 637, 638, 639, 640, 641, 642, 643, 644, 645, 646, 647, 648, 649, 650, 651, 671, 672] (by decide +kernel) (by decide +kernel)) (goodIn_sub (fun _ h => List.mem_append_left _ (List.mem_append_left _ (List.mem_append_left _ (List.mem_append_left _ (List.mem_append_left _ (List.mem_append_left _ (List.mem_append_right _ h))))))) (by decide +kernel))) (goodIn_sub (fun _ h => List.mem_append_left _ (List.mem_append_left _ (List.mem_append_left _ (List.mem_append_right _ h)))) (by decide +kernel))
set_option maxRecDepth 20000 in
theorem gL_law_L_keeper : GoodIn wsL_law (va_wsS RL 176 yL_keeper wsL_keeper) := goodIn_app (goodIn_of _ (by decide +kernel)) ggL_law_L_keeper
set_option maxRecDepth 20000 in
theorem ggL_law_X3_keeper : GoodIn wsL_law wsX3_keeper := goodIn_ca (goodIn_r _ [511, 292, 293, 294, 5, 295, 291, 127, 128, 129, 85, 86, 87, 88, 89, 512, 513, 514, 515, 59, 60, 62, 54, 516, 517, 518, 519, 52, 66, 55, 652, 653, 654, 655, 656, 657, 658, 659, 660, 661, 662, 663, 664, 665, 666, 667, 668, 669, 670] (by decide +kernel) (by decide +kernel)) (goodIn_sub (fun _ h => List.mem_append_left _ (List.mem_append_left _ (List.mem_append_left _ (List.mem_append_left _ (List.mem_append_left _ (List.mem_append_left _ (List.mem_append_right _ h))))))) (by decide +kernel))
set_option maxRecDepth 20000 in
theorem gL_law_X3_keeper : GoodIn wsL_law (wsV RL 178 RX3 yX3_keeper wsX3_keeper) := goodIn_app (goodIn_of _ (by decide +kernel)) ggL_law_X3_keeper
set_option maxRecDepth 20000 in
theorem ggL_law_L_leave : GoodIn wsL_law wsL_leave := goodIn_ca (goodIn_ca (goodIn_ca (goodIn_ca (goodIn_r _ [522, 97, 146, 71, 523, 524, 525, 2, 526, 151, 152, 76, 77, 29, 105, 106, 107, 108, 109, 110, 28, 162, 163, 164, 165, 166, 167, 168, 350, 351, 352, 527, 528, 529, 530, 282, 18, 504, 505, 506, 507, 111, 112, 113, 16, 114, 39, 40, 310, 311, 312, 313, 314, 492, 493, 494, 495, 496, 497, 498, 499, 17, 500, 501, 502, 503, 19, 115, 116, 117, 118, 636, 637, 638, 639, 640, 641, 642, 643, 644, 645, 646, 647, 648, 649, 650, 651, 671, 672] (by decide +kernel) (by decide +kernel)) (goodIn_sub (fun _ h => List.mem_append_left _ (List.mem_append_left _ (List.mem_append_left _ (List.mem_append_left _ (List.mem_append_left _ (List.mem_append_left _ (List.mem_append_right _ h))))))) (by decide +kernel))) (goodIn_sub (fun _ h => List.mem_append_left _ (List.mem_append_left _ (List.mem_append_right _ h))) (by decide +kernel))) (goodIn_sub (fun _ h => List.mem_append_left _ (List.mem_append_left _ (List.mem_append_left _ (List.mem_append_left _ (List.mem_append_left _ (List.mem_append_right _ h)))))) (by decide +kernel))) (goodIn_sub (fun _ h => List.mem_append_left _ (List.mem_append_left _ (List.mem_append_left _ (List.mem_append_right _ h)))) (by decide +kernel))
set_option maxRecDepth 20000 in
theorem gL_law_L_leave : GoodIn wsL_law (va_wsS RL 179 yL_leave wsL_leave) := goodIn_app (goodIn_of _ (by decide +kernel)) ggL_law_L_leave
set_option maxRecDepth 20000 in
theorem ggL_law_X3_leave : GoodIn wsL_law wsX3_leave := goodIn_ca (goodIn_r _ [534, 54, 291, 59, 62, 123, 124, 125, 5, 126, 52, 127, 128, 129, 85, 86, 87, 88, 89, 512, 513, 514, 515, 60, 516, 517, 518, 519, 66, 55, 652, 653, 654, 655, 656, 657, 658, 659, 660, 661, 662, 663, 664, 665, 666, 667, 668, 669, 670] (by decide +kernel) (by decide +kernel)) (goodIn_sub (fun _ h => List.mem_append_left _ (List.mem_append_left _ (List.mem_append_left _ (List.mem_append_left _ (List.mem_append_left _ (List.mem_append_left _ (List.mem_append_right _ h))))))) (by decide +kernel))
set_option maxRecDepth 20000 in
theorem gL_law_X3_leave : GoodIn wsL_law (wsV RL 181 RX3 yX3_leave wsX3_leave) := goodIn_app (goodIn_of _ (by decide +kernel)) ggL_law_X3_leave
set_option maxRecDepth 20000 in
theorem ggL_law_L_hold : GoodIn wsL_law wsL_hold := goodIn_ca (goodIn_ca (goodIn_ca (goodIn_r _ [537, 97, 71, 538, 539, 540, 2, 541, 314, 283, 284, 285, 286, 109, 110, 282, 306, 307, 308, 309, 76, 77, 310, 311, 312, 313, 166, 167, 168, 78, 79, 80, 542, 543, 544, 545, 546, 547, 548, 636, 637, 638, 639, 640, 641, 642, 643, 644, 645, 646, 647, 648, 649, 650, 651] (by decide +kernel) (by decide +kernel)) (goodIn_sub (fun _ h => List.mem_append_left _ (List.mem_append_left _ (List.mem_append_left _ (List.mem_append_left _ (List.mem_append_left _ (List.mem_append_left _ (List.mem_append_right _ h))))))) (by decide +kernel))) (goodIn_sub (fun _ h => List.mem_append_left _ (List.mem_append_left _ (List.mem_append_left _ (List.mem_append_right _ h)))) (by decide +kernel))) (goodIn_sub (fun _ h => List.mem_append_left _ (List.mem_append_left _ (List.mem_append_left _ (List.mem_append_left _ (List.mem_append_left _ (List.mem_append_right _ h)))))) (by decide +kernel))
set_option maxRecDepth 20000 in
theorem gL_law_L_hold : GoodIn wsL_law (va_wsS RL 182 yL_hold wsL_hold) := goodIn_app (goodIn_of _ (by decide +kernel)) ggL_law_L_hold
set_option maxRecDepth 20000 in
theorem ggL_law_X3_hold : GoodIn wsL_law wsX3_hold := goodIn_ca (goodIn_r _ [552, 62, 292, 293, 294, 5, 295, 291, 127, 128, 129, 85, 86, 87, 88, 89, 553, 554, 555, 556, 652, 653, 654, 655, 656, 657, 658, 659, 660, 661, 662, 663, 664, 665, 666, 667, 668, 669, 670] (by decide +kernel) (by decide +kernel)) (goodIn_sub (fun _ h => List.mem_append_left _ (List.mem_append_left _ (List.mem_append_left _ (List.mem_append_left _ (List.mem_append_left _ (List.mem_append_left _ (List.mem_append_right _ h))))))) (by decide +kernel))
set_option maxRecDepth 20000 in
theorem gL_law_X3_hold : GoodIn wsL_law (wsV RL 184 RX3 yX3_hold wsX3_hold) := goodIn_app (goodIn_of _ (by decide +kernel)) ggL_law_X3_hold
set_option maxRecDepth 20000 in
theorem ggL_law_L_release : GoodIn wsL_law wsL_release := goodIn_ca (goodIn_ca (goodIn_ca (goodIn_r _ [559, 97, 71, 560, 561, 562, 2, 563, 76, 77, 314, 18, 283, 284, 285, 286, 109, 110, 282, 310, 311, 312, 313, 166, 167, 168, 350, 351, 352, 111, 112, 113, 16, 114, 39, 40, 162, 163, 164, 165, 29, 492, 493, 494, 495, 496, 497, 498, 499, 17, 500, 501, 502, 503, 19, 504, 505, 506, 507, 115, 116, 117, 118, 636, 637, 638, 639, 640, 641, 642, 643, 644, 645, 646, 647, 648, 649, 650, 651, 671, 672] (by decide +kernel) (by decide +kernel)) (goodIn_sub (fun _ h => List.mem_append_left _ (List.mem_append_left _ (List.mem_append_left _ (List.mem_append_left _ (List.mem_append_left _ (List.mem_append_left _ (List.mem_append_right _ h))))))) (by decide +kernel))) (goodIn_sub (fun _ h => List.mem_append_left _ (List.mem_append_left _ (List.mem_append_left _ (List.mem_append_left _ (List.mem_append_left _ (List.mem_append_right _ h)))))) (by decide +kernel))) (goodIn_sub (fun _ h => List.mem_append_left _ (List.mem_append_left _ (List.mem_append_left _ (List.mem_append_right _ h)))) (by decide +kernel))
set_option maxRecDepth 20000 in
theorem gL_law_L_release : GoodIn wsL_law (va_wsS RL 185 yL_release wsL_release) := goodIn_app (goodIn_of _ (by decide +kernel)) ggL_law_L_release
set_option maxRecDepth 20000 in
theorem ggL_law_X3_release : GoodIn wsL_law wsX3_release := goodIn_ca (goodIn_r _ [567, 62, 54, 59, 292, 293, 294, 5, 295, 291, 127, 128, 129, 85, 86, 87, 88, 89, 512, 513, 514, 515, 60, 516, 517, 518, 519, 52, 66, 55, 652, 653, 654, 655, 656, 657, 658, 659, 660, 661, 662, 663, 664, 665, 666, 667, 668, 669, 670] (by decide +kernel) (by decide +kernel)) (goodIn_sub (fun _ h => List.mem_append_left _ (List.mem_append_left _ (List.mem_append_left _ (List.mem_append_left _ (List.mem_append_left _ (List.mem_append_left _ (List.mem_append_right _ h))))))) (by decide +kernel))
set_option maxRecDepth 20000 in
theorem gL_law_X3_release : GoodIn wsL_law (wsV RL 187 RX3 yX3_release wsX3_release) := goodIn_app (goodIn_of _ (by decide +kernel)) ggL_law_X3_release
set_option maxRecDepth 20000 in
theorem ggL_law_L_pass : GoodIn wsL_law wsL_pass := goodIn_ca (goodIn_ca (goodIn_r _ [570, 98, 571, 572, 573, 2, 574, 103, 104, 161, 24, 25, 575, 576, 577, 23, 578, 46, 636, 637, 638, 639, 640, 641, 642, 643, 644, 645, 646, 647, 648, 649, 650, 651, 673, 674] (by decide +kernel) (by decide +kernel)) (goodIn_sub (fun _ h => List.mem_append_left _ (List.mem_append_left _ (List.mem_append_left _ (List.mem_append_left _ (List.mem_append_left _ (List.mem_append_left _ (List.mem_append_right _ h))))))) (by decide +kernel))) (goodIn_sub (fun _ h => List.mem_append_left _ (List.mem_append_left _ (List.mem_append_left _ (List.mem_append_left _ (List.mem_append_right _ h))))) (by decide +kernel))
set_option maxRecDepth 20000 in
theorem gL_law_L_pass : GoodIn wsL_law (va_wsS RL 188 yL_pass wsL_pass) := goodIn_app (goodIn_of _ (by decide +kernel)) ggL_law_L_pass
set_option maxRecDepth 20000 in
theorem ggL_law_X3_pass : GoodIn wsL_law wsX3_pass := goodIn_ca (goodIn_r _ [582, 193, 56, 57, 127, 128, 5, 129, 85, 86, 87, 88, 89, 652, 653, 654, 655, 656, 657, 658, 659, 660, 661, 662, 663, 664, 665, 666, 667, 668, 669, 670] (by decide +kernel) (by decide +kernel)) (goodIn_sub (fun _ h => List.mem_append_left _ (List.mem_append_left _ (List.mem_append_left _ (List.mem_append_left _ (List.mem_append_left _ (List.mem_append_left _ (List.mem_append_right _ h))))))) (by decide +kernel))
set_option maxRecDepth 20000 in
theorem gL_law_X3_pass : GoodIn wsL_law (wsV RL 190 RX3 yX3_pass wsX3_pass) := goodIn_app (goodIn_of _ (by decide +kernel)) ggL_law_X3_pass
set_option maxRecDepth 20000 in
theorem ggL_law_X2_day : GoodIn wsL_law wsX2_day := goodIn_r _ [586, 161, 636, 637, 638, 639, 640, 641, 642, 643, 644, 645, 646, 647, 648, 649, 650, 651] (by decide +kernel) (by decide +kernel)
set_option maxRecDepth 20000 in
theorem gL_law_X2_day : GoodIn wsL_law (wsV RL 191 RX2 yX2_day wsX2_day) := goodIn_app (goodIn_of _ (by decide +kernel)) ggL_law_X2_day
set_option maxRecDepth 20000 in
theorem ggL_law_X3_day : GoodIn wsL_law wsX3_day := goodIn_r _ [590, 193, 591, 592, 593, 5, 594, 89, 652, 653, 654, 655, 656, 657, 658, 659, 660, 661, 662, 663, 664, 665, 666, 667, 668, 669, 670] (by decide +kernel) (by decide +kernel)
set_option maxRecDepth 20000 in
theorem gL_law_X3_day : GoodIn wsL_law (wsV RL 194 RX3 yX3_day wsX3_day) := goodIn_app (goodIn_of _ (by decide +kernel)) ggL_law_X3_day
set_option maxRecDepth 20000 in
theorem ggL_law_X2_active : GoodIn wsL_law wsX2_active := goodIn_r _ [598, 29, 542, 543, 544, 545, 546, 547, 548, 636, 637, 638, 639, 640, 641, 642, 643, 644, 645, 646, 647, 648, 649, 650, 651] (by decide +kernel) (by decide +kernel)
set_option maxRecDepth 20000 in
theorem gL_law_X2_active : GoodIn wsL_law (wsV RL 195 RX2 yX2_active wsX2_active) := goodIn_app (goodIn_of _ (by decide +kernel)) ggL_law_X2_active
set_option maxRecDepth 20000 in
theorem ggL_law_X3_active : GoodIn wsL_law wsX3_active := goodIn_ca (goodIn_r _ [602, 603, 604, 605, 5, 606, 52, 54, 591, 592, 593, 594, 89, 652, 653, 654, 655, 656, 657, 658, 659, 660, 661, 662, 663, 664, 665, 666, 667, 668, 669, 670] (by decide +kernel) (by decide +kernel)) (goodIn_sub (fun _ h => List.mem_append_left _ (List.mem_append_left _ (List.mem_append_left _ (List.mem_append_left _ (List.mem_append_left _ (List.mem_append_left _ (List.mem_append_right _ h))))))) (by decide +kernel))
set_option maxRecDepth 20000 in
theorem gL_law_X3_active : GoodIn wsL_law (wsV RL 198 RX3 yX3_active wsX3_active) := goodIn_app (goodIn_of _ (by decide +kernel)) ggL_law_X3_active
set_option maxRecDepth 20000 in
theorem ggL_law_L_openShare : GoodIn wsL_law wsL_openShare := goodIn_ca (goodIn_ca (goodIn_r _ [609, 610, 611, 612, 613, 2, 614, 615, 616, 29, 282, 542, 543, 544, 545, 546, 547, 548, 617, 618, 619, 620, 28, 255, 256, 257, 258, 137, 240, 241, 242, 243, 24, 217, 178, 179, 23, 180, 47, 46, 78, 79, 80, 205, 206, 207, 208, 166, 167, 168, 209, 210, 211, 212, 213, 214, 215, 216, 25, 375, 376, 377, 378, 18, 379, 35, 36, 37, 162, 163, 164, 165, 111, 112, 113, 16, 114, 39, 40, 380, 381, 382, 383, 26, 27, 384, 385, 386, 387, 349, 19, 636, 637, 638, 639, 640, 641, 642, 643, 644, 645, 646, 647, 648, 649, 650, 651, 673, 674, 671, 672] (by decide +kernel) (by decide +kernel)) (goodIn_sub (fun _ h => List.mem_append_left _ (List.mem_append_left _ (List.mem_append_left _ (List.mem_append_left _ (List.mem_append_left _ (List.mem_append_left _ (List.mem_append_right _ h))))))) (by decide +kernel))) (goodIn_sub (fun _ h => List.mem_append_right _ h) (by decide +kernel))
set_option maxRecDepth 20000 in
theorem gL_law_L_openShare : GoodIn wsL_law (va_wsS RL 199 yL_openShare wsL_openShare) := goodIn_app (goodIn_of _ (by decide +kernel)) ggL_law_L_openShare
set_option maxRecDepth 20000 in
theorem ggL_law_X3_openShare : GoodIn wsL_law wsX3_openShare := goodIn_ca (goodIn_r _ [624, 291, 52, 85, 86, 87, 5, 88, 89, 396, 397, 398, 399, 54, 59, 142, 58, 63, 64, 61, 60, 263, 264, 265, 266, 56, 222, 223, 224, 225, 226, 227, 228, 229, 57, 603, 604, 605, 606, 652, 653, 654, 655, 656, 657, 658, 659, 660, 661, 662, 663, 664, 665, 666, 667, 668, 669, 670] (by decide +kernel) (by decide +kernel)) (goodIn_sub (fun _ h => List.mem_append_left _ (List.mem_append_left _ (List.mem_append_left _ (List.mem_append_left _ (List.mem_append_left _ (List.mem_append_left _ (List.mem_append_right _ h))))))) (by decide +kernel))
set_option maxRecDepth 20000 in
theorem gL_law_X3_openShare : GoodIn wsL_law (wsV RL 202 RX3 yX3_openShare wsX3_openShare) := goodIn_app (goodIn_of _ (by decide +kernel)) ggL_law_X3_openShare
set_option maxRecDepth 20000 in
theorem ggL_law_L_meanOwned : GoodIn wsL_law wsL_meanOwned := goodIn_ca (goodIn_ca (goodIn_r _ [627, 610, 628, 629, 630, 2, 631, 615, 616, 282, 18, 111, 112, 113, 16, 114, 39, 40, 162, 163, 164, 165, 29, 166, 167, 168, 78, 79, 80, 542, 543, 544, 545, 546, 547, 548, 636, 637, 638, 639, 640, 641, 642, 643, 644, 645, 646, 647, 648, 649, 650, 651, 671, 672] (by decide +kernel) (by decide +kernel)) (goodIn_sub (fun _ h => List.mem_append_left _ (List.mem_append_left _ (List.mem_append_left _ (List.mem_append_left _ (List.mem_append_left _ (List.mem_append_left _ (List.mem_append_right _ h))))))) (by decide +kernel))) (goodIn_sub (fun _ h => List.mem_append_right _ h) (by decide +kernel))
set_option maxRecDepth 20000 in
theorem gL_law_L_meanOwned : GoodIn wsL_law (va_wsS RL 203 yL_meanOwned wsL_meanOwned) := goodIn_app (goodIn_of _ (by decide +kernel)) ggL_law_L_meanOwned
set_option maxRecDepth 20000 in
theorem ggL_law_X3_meanOwned : GoodIn wsL_law wsX3_meanOwned := goodIn_ca (goodIn_r _ [635, 52, 291, 59, 54, 85, 86, 87, 5, 88, 89, 652, 653, 654, 655, 656, 657, 658, 659, 660, 661, 662, 663, 664, 665, 666, 667, 668, 669, 670] (by decide +kernel) (by decide +kernel)) (goodIn_sub (fun _ h => List.mem_append_left _ (List.mem_append_left _ (List.mem_append_left _ (List.mem_append_left _ (List.mem_append_left _ (List.mem_append_left _ (List.mem_append_right _ h))))))) (by decide +kernel))
set_option maxRecDepth 20000 in
theorem gL_law_X3_meanOwned : GoodIn wsL_law (wsV RL 205 RX3 yX3_meanOwned wsX3_meanOwned) := goodIn_app (goodIn_of _ (by decide +kernel)) ggL_law_X3_meanOwned
theorem dL_law_0 : decode cL_law 0 = .ok (.new 8, 3) := by decide +kernel
theorem dL_law_3 : decode cL_law 3 = .ok (.dup, 1) := by decide +kernel
theorem dL_law_4 : decode cL_law 4 = .ok (.invokespecial 104, 3) := by decide +kernel
theorem dL_law_7 : decode cL_law 7 = .ok (.astore_n 1, 1) := by decide +kernel
theorem dL_law_8 : decode cL_law 8 = .ok (.new 105, 3) := by decide +kernel
theorem dL_law_11 : decode cL_law 11 = .ok (.dup, 1) := by decide +kernel
theorem dL_law_12 : decode cL_law 12 = .ok (.invokespecial 107, 3) := by decide +kernel
theorem dL_law_15 : decode cL_law 15 = .ok (.astore_n 2, 1) := by decide +kernel
theorem dL_law_16 : decode cL_law 16 = .ok (.iconst 1, 1) := by decide +kernel
theorem dL_law_17 : decode cL_law 17 = .ok (.newarray .long, 2) := by decide +kernel
theorem dL_law_19 : decode cL_law 19 = .ok (.astore_n 3, 1) := by decide +kernel
theorem dL_law_20 : decode cL_law 20 = .ok (.iconst 1, 1) := by decide +kernel
theorem dL_law_21 : decode cL_law 21 = .ok (.newarray .double, 2) := by decide +kernel
theorem dL_law_23 : decode cL_law 23 = .ok (.astore 4, 2) := by decide +kernel
theorem dL_law_25 : decode cL_law 25 = .ok (.iconst 0, 1) := by decide +kernel
theorem dL_law_26 : decode cL_law 26 = .ok (.istore 5, 2) := by decide +kernel
theorem dL_law_28 : decode cL_law 28 = .ok (.iload 5, 2) := by decide +kernel
theorem dL_law_30 : decode cL_law 30 = .ok (.aload_n 0, 1) := by decide +kernel
theorem dL_law_31 : decode cL_law 31 = .ok (.arraylength, 1) := by decide +kernel
theorem dL_law_32 : decode cL_law 32 = .ok (.iconst 4, 1) := by decide +kernel
theorem dL_law_33 : decode cL_law 33 = .ok (.isub, 1) := by decide +kernel
theorem dL_law_34 : decode cL_law 34 = .ok (.if_icmp .gt 1819, 3) := by decide +kernel
theorem dL_law_37 : decode cL_law 37 = .ok (.aload_n 0, 1) := by decide +kernel
theorem dL_law_38 : decode cL_law 38 = .ok (.iload 5, 2) := by decide +kernel
theorem dL_law_40 : decode cL_law 40 = .ok (.iaload, 1) := by decide +kernel
theorem dL_law_41 : decode cL_law 41 = .ok (.bipush 31, 2) := by decide +kernel
theorem dL_law_43 : decode cL_law 43 = .ok (.iand, 1) := by decide +kernel
theorem dL_law_44 : decode cL_law 44 = .ok (.tableswitch 1803 0 27 #[128, 172, 240, 284, 364, 444, 512, 587, 600, 668, 748, 828, 919, 975, 1043, 1111, 1179, 1235, 1310, 1366, 1422, 1478, 1534, 1590, 1646, 1659, 1672, 1738], 128) := by decide +kernel
theorem dL_law_172 : decode cL_law 172 = .ok (.aload_n 1, 1) := by decide +kernel
theorem dL_law_173 : decode cL_law 173 = .ok (.aload_n 3, 1) := by decide +kernel
theorem dL_law_174 : decode cL_law 174 = .ok (.invokestatic 108, 3) := by decide +kernel
theorem dL_law_177 : decode cL_law 177 = .ok (.istore 6, 2) := by decide +kernel
theorem dL_law_179 : decode cL_law 179 = .ok (.aload_n 2, 1) := by decide +kernel
theorem dL_law_180 : decode cL_law 180 = .ok (.invokevirtual 113, 3) := by decide +kernel
theorem dL_law_183 : decode cL_law 183 = .ok (.istore 7, 2) := by decide +kernel
theorem dL_law_185 : decode cL_law 185 = .ok (.aload_n 2, 1) := by decide +kernel
theorem dL_law_186 : decode cL_law 186 = .ok (.invokevirtual 114, 3) := by decide +kernel
theorem dL_law_189 : decode cL_law 189 = .ok (.iload 6, 2) := by decide +kernel
theorem dL_law_191 : decode cL_law 191 = .ok (.if_icmp .eq 5, 3) := by decide +kernel
theorem dL_law_194 : decode cL_law 194 = .ok (.iconst 0, 1) := by decide +kernel
theorem dL_law_195 : decode cL_law 195 = .ok (.ireturn, 1) := by decide +kernel
theorem dL_law_196 : decode cL_law 196 = .ok (.iload 6, 2) := by decide +kernel
theorem dL_law_198 : decode cL_law 198 = .ok (.ifCond .ne 15, 3) := by decide +kernel
theorem dL_law_201 : decode cL_law 201 = .ok (.aload_n 3, 1) := by decide +kernel
theorem dL_law_202 : decode cL_law 202 = .ok (.iconst 0, 1) := by decide +kernel
theorem dL_law_203 : decode cL_law 203 = .ok (.laload, 1) := by decide +kernel
theorem dL_law_204 : decode cL_law 204 = .ok (.iload 7, 2) := by decide +kernel
theorem dL_law_206 : decode cL_law 206 = .ok (.i2l, 1) := by decide +kernel
theorem dL_law_207 : decode cL_law 207 = .ok (.lcmp, 1) := by decide +kernel
theorem dL_law_208 : decode cL_law 208 = .ok (.ifCond .eq 5, 3) := by decide +kernel
theorem dL_law_211 : decode cL_law 211 = .ok (.iconst 0, 1) := by decide +kernel
theorem dL_law_212 : decode cL_law 212 = .ok (.ireturn, 1) := by decide +kernel
theorem dL_law_213 : decode cL_law 213 = .ok (.goto 1634, 3) := by decide +kernel
theorem dL_law_216 : decode cL_law 216 = .ok (.aload_n 1, 1) := by decide +kernel
theorem dL_law_217 : decode cL_law 217 = .ok (.aload_n 0, 1) := by decide +kernel
theorem dL_law_218 : decode cL_law 218 = .ok (.iload 5, 2) := by decide +kernel
theorem dL_law_220 : decode cL_law 220 = .ok (.iconst 1, 1) := by decide +kernel
theorem dL_law_221 : decode cL_law 221 = .ok (.iadd, 1) := by decide +kernel
theorem dL_law_222 : decode cL_law 222 = .ok (.iaload, 1) := by decide +kernel
theorem dL_law_223 : decode cL_law 223 = .ok (.aload_n 0, 1) := by decide +kernel
theorem dL_law_224 : decode cL_law 224 = .ok (.iload 5, 2) := by decide +kernel
theorem dL_law_226 : decode cL_law 226 = .ok (.iconst 2, 1) := by decide +kernel
theorem dL_law_227 : decode cL_law 227 = .ok (.iadd, 1) := by decide +kernel
theorem dL_law_228 : decode cL_law 228 = .ok (.iaload, 1) := by decide +kernel
theorem dL_law_229 : decode cL_law 229 = .ok (.aload_n 3, 1) := by decide +kernel
theorem dL_law_230 : decode cL_law 230 = .ok (.invokestatic 117, 3) := by decide +kernel
theorem dL_law_233 : decode cL_law 233 = .ok (.istore 6, 2) := by decide +kernel
theorem dL_law_235 : decode cL_law 235 = .ok (.aload_n 2, 1) := by decide +kernel
theorem dL_law_236 : decode cL_law 236 = .ok (.aload_n 0, 1) := by decide +kernel
theorem dL_law_237 : decode cL_law 237 = .ok (.iload 5, 2) := by decide +kernel
theorem dL_law_239 : decode cL_law 239 = .ok (.iconst 1, 1) := by decide +kernel
theorem dL_law_240 : decode cL_law 240 = .ok (.iadd, 1) := by decide +kernel
theorem dL_law_241 : decode cL_law 241 = .ok (.iaload, 1) := by decide +kernel
theorem dL_law_242 : decode cL_law 242 = .ok (.aload_n 0, 1) := by decide +kernel
theorem dL_law_243 : decode cL_law 243 = .ok (.iload 5, 2) := by decide +kernel
theorem dL_law_245 : decode cL_law 245 = .ok (.iconst 2, 1) := by decide +kernel
theorem dL_law_246 : decode cL_law 246 = .ok (.iadd, 1) := by decide +kernel
theorem dL_law_247 : decode cL_law 247 = .ok (.iaload, 1) := by decide +kernel
theorem dL_law_248 : decode cL_law 248 = .ok (.invokevirtual 120, 3) := by decide +kernel
theorem dL_law_251 : decode cL_law 251 = .ok (.istore 7, 2) := by decide +kernel
theorem dL_law_253 : decode cL_law 253 = .ok (.aload_n 2, 1) := by decide +kernel
theorem dL_law_254 : decode cL_law 254 = .ok (.invokevirtual 114, 3) := by decide +kernel
theorem dL_law_257 : decode cL_law 257 = .ok (.iload 6, 2) := by decide +kernel
theorem dL_law_259 : decode cL_law 259 = .ok (.if_icmp .eq 5, 3) := by decide +kernel
theorem dL_law_262 : decode cL_law 262 = .ok (.iconst 0, 1) := by decide +kernel
theorem dL_law_263 : decode cL_law 263 = .ok (.ireturn, 1) := by decide +kernel
theorem dL_law_264 : decode cL_law 264 = .ok (.iload 6, 2) := by decide +kernel
theorem dL_law_266 : decode cL_law 266 = .ok (.ifCond .ne 15, 3) := by decide +kernel
theorem dL_law_269 : decode cL_law 269 = .ok (.aload_n 3, 1) := by decide +kernel
theorem dL_law_270 : decode cL_law 270 = .ok (.iconst 0, 1) := by decide +kernel
theorem dL_law_271 : decode cL_law 271 = .ok (.laload, 1) := by decide +kernel
theorem dL_law_272 : decode cL_law 272 = .ok (.iload 7, 2) := by decide +kernel
theorem dL_law_274 : decode cL_law 274 = .ok (.i2l, 1) := by decide +kernel
theorem dL_law_275 : decode cL_law 275 = .ok (.lcmp, 1) := by decide +kernel
theorem dL_law_276 : decode cL_law 276 = .ok (.ifCond .eq 5, 3) := by decide +kernel
theorem dL_law_279 : decode cL_law 279 = .ok (.iconst 0, 1) := by decide +kernel
theorem dL_law_280 : decode cL_law 280 = .ok (.ireturn, 1) := by decide +kernel
theorem dL_law_281 : decode cL_law 281 = .ok (.goto 1566, 3) := by decide +kernel
theorem dL_law_284 : decode cL_law 284 = .ok (.aload_n 1, 1) := by decide +kernel
theorem dL_law_285 : decode cL_law 285 = .ok (.aload_n 3, 1) := by decide +kernel
theorem dL_law_286 : decode cL_law 286 = .ok (.invokestatic 121, 3) := by decide +kernel
theorem dL_law_289 : decode cL_law 289 = .ok (.istore 6, 2) := by decide +kernel
theorem dL_law_291 : decode cL_law 291 = .ok (.aload_n 2, 1) := by decide +kernel
theorem dL_law_292 : decode cL_law 292 = .ok (.invokevirtual 123, 3) := by decide +kernel
theorem dL_law_295 : decode cL_law 295 = .ok (.istore 7, 2) := by decide +kernel
theorem dL_law_297 : decode cL_law 297 = .ok (.aload_n 2, 1) := by decide +kernel
theorem dL_law_298 : decode cL_law 298 = .ok (.invokevirtual 114, 3) := by decide +kernel
theorem dL_law_301 : decode cL_law 301 = .ok (.iload 6, 2) := by decide +kernel
theorem dL_law_303 : decode cL_law 303 = .ok (.if_icmp .eq 5, 3) := by decide +kernel
theorem dL_law_306 : decode cL_law 306 = .ok (.iconst 0, 1) := by decide +kernel
theorem dL_law_307 : decode cL_law 307 = .ok (.ireturn, 1) := by decide +kernel
theorem dL_law_308 : decode cL_law 308 = .ok (.iload 6, 2) := by decide +kernel
theorem dL_law_310 : decode cL_law 310 = .ok (.ifCond .ne 15, 3) := by decide +kernel
theorem dL_law_313 : decode cL_law 313 = .ok (.aload_n 3, 1) := by decide +kernel
theorem dL_law_314 : decode cL_law 314 = .ok (.iconst 0, 1) := by decide +kernel
theorem dL_law_315 : decode cL_law 315 = .ok (.laload, 1) := by decide +kernel
theorem dL_law_316 : decode cL_law 316 = .ok (.iload 7, 2) := by decide +kernel
theorem dL_law_318 : decode cL_law 318 = .ok (.i2l, 1) := by decide +kernel
theorem dL_law_319 : decode cL_law 319 = .ok (.lcmp, 1) := by decide +kernel
theorem dL_law_320 : decode cL_law 320 = .ok (.ifCond .eq 5, 3) := by decide +kernel
theorem dL_law_323 : decode cL_law 323 = .ok (.iconst 0, 1) := by decide +kernel
theorem dL_law_324 : decode cL_law 324 = .ok (.ireturn, 1) := by decide +kernel
theorem dL_law_325 : decode cL_law 325 = .ok (.goto 1522, 3) := by decide +kernel
theorem dL_law_328 : decode cL_law 328 = .ok (.aload_n 1, 1) := by decide +kernel
theorem dL_law_329 : decode cL_law 329 = .ok (.aload_n 0, 1) := by decide +kernel
theorem dL_law_330 : decode cL_law 330 = .ok (.iload 5, 2) := by decide +kernel
theorem dL_law_332 : decode cL_law 332 = .ok (.iconst 1, 1) := by decide +kernel
theorem dL_law_333 : decode cL_law 333 = .ok (.iadd, 1) := by decide +kernel
theorem dL_law_334 : decode cL_law 334 = .ok (.iaload, 1) := by decide +kernel
theorem dL_law_335 : decode cL_law 335 = .ok (.aload_n 0, 1) := by decide +kernel
theorem dL_law_336 : decode cL_law 336 = .ok (.iload 5, 2) := by decide +kernel
theorem dL_law_338 : decode cL_law 338 = .ok (.iconst 2, 1) := by decide +kernel
theorem dL_law_339 : decode cL_law 339 = .ok (.iadd, 1) := by decide +kernel
theorem dL_law_340 : decode cL_law 340 = .ok (.iaload, 1) := by decide +kernel
theorem dL_law_341 : decode cL_law 341 = .ok (.aload_n 0, 1) := by decide +kernel
theorem dL_law_342 : decode cL_law 342 = .ok (.iload 5, 2) := by decide +kernel
theorem dL_law_344 : decode cL_law 344 = .ok (.iconst 3, 1) := by decide +kernel
theorem dL_law_345 : decode cL_law 345 = .ok (.iadd, 1) := by decide +kernel
theorem dL_law_346 : decode cL_law 346 = .ok (.iaload, 1) := by decide +kernel
theorem dL_law_347 : decode cL_law 347 = .ok (.aload_n 3, 1) := by decide +kernel
theorem dL_law_348 : decode cL_law 348 = .ok (.invokestatic 124, 3) := by decide +kernel
theorem dL_law_351 : decode cL_law 351 = .ok (.istore 6, 2) := by decide +kernel
theorem dL_law_353 : decode cL_law 353 = .ok (.aload_n 2, 1) := by decide +kernel
theorem dL_law_354 : decode cL_law 354 = .ok (.aload_n 0, 1) := by decide +kernel
theorem dL_law_355 : decode cL_law 355 = .ok (.iload 5, 2) := by decide +kernel
theorem dL_law_357 : decode cL_law 357 = .ok (.iconst 1, 1) := by decide +kernel
theorem dL_law_358 : decode cL_law 358 = .ok (.iadd, 1) := by decide +kernel
theorem dL_law_359 : decode cL_law 359 = .ok (.iaload, 1) := by decide +kernel
theorem dL_law_360 : decode cL_law 360 = .ok (.aload_n 0, 1) := by decide +kernel
theorem dL_law_361 : decode cL_law 361 = .ok (.iload 5, 2) := by decide +kernel
theorem dL_law_363 : decode cL_law 363 = .ok (.iconst 2, 1) := by decide +kernel
theorem dL_law_364 : decode cL_law 364 = .ok (.iadd, 1) := by decide +kernel
theorem dL_law_365 : decode cL_law 365 = .ok (.iaload, 1) := by decide +kernel
theorem dL_law_366 : decode cL_law 366 = .ok (.aload_n 0, 1) := by decide +kernel
theorem dL_law_367 : decode cL_law 367 = .ok (.iload 5, 2) := by decide +kernel
theorem dL_law_369 : decode cL_law 369 = .ok (.iconst 3, 1) := by decide +kernel
theorem dL_law_370 : decode cL_law 370 = .ok (.iadd, 1) := by decide +kernel
theorem dL_law_371 : decode cL_law 371 = .ok (.iaload, 1) := by decide +kernel
theorem dL_law_372 : decode cL_law 372 = .ok (.invokevirtual 127, 3) := by decide +kernel
theorem dL_law_375 : decode cL_law 375 = .ok (.istore 7, 2) := by decide +kernel
theorem dL_law_377 : decode cL_law 377 = .ok (.aload_n 2, 1) := by decide +kernel
theorem dL_law_378 : decode cL_law 378 = .ok (.invokevirtual 114, 3) := by decide +kernel
theorem dL_law_381 : decode cL_law 381 = .ok (.iload 6, 2) := by decide +kernel
theorem dL_law_383 : decode cL_law 383 = .ok (.if_icmp .eq 5, 3) := by decide +kernel
theorem dL_law_386 : decode cL_law 386 = .ok (.iconst 0, 1) := by decide +kernel
theorem dL_law_387 : decode cL_law 387 = .ok (.ireturn, 1) := by decide +kernel
theorem dL_law_388 : decode cL_law 388 = .ok (.iload 6, 2) := by decide +kernel
theorem dL_law_390 : decode cL_law 390 = .ok (.ifCond .ne 15, 3) := by decide +kernel
theorem dL_law_393 : decode cL_law 393 = .ok (.aload_n 3, 1) := by decide +kernel
theorem dL_law_394 : decode cL_law 394 = .ok (.iconst 0, 1) := by decide +kernel
theorem dL_law_395 : decode cL_law 395 = .ok (.laload, 1) := by decide +kernel
theorem dL_law_396 : decode cL_law 396 = .ok (.iload 7, 2) := by decide +kernel
theorem dL_law_398 : decode cL_law 398 = .ok (.i2l, 1) := by decide +kernel
theorem dL_law_399 : decode cL_law 399 = .ok (.lcmp, 1) := by decide +kernel
theorem dL_law_400 : decode cL_law 400 = .ok (.ifCond .eq 5, 3) := by decide +kernel
theorem dL_law_403 : decode cL_law 403 = .ok (.iconst 0, 1) := by decide +kernel
theorem dL_law_404 : decode cL_law 404 = .ok (.ireturn, 1) := by decide +kernel
theorem dL_law_405 : decode cL_law 405 = .ok (.goto 1442, 3) := by decide +kernel
theorem dL_law_408 : decode cL_law 408 = .ok (.aload_n 1, 1) := by decide +kernel
theorem dL_law_409 : decode cL_law 409 = .ok (.aload_n 0, 1) := by decide +kernel
theorem dL_law_410 : decode cL_law 410 = .ok (.iload 5, 2) := by decide +kernel
theorem dL_law_412 : decode cL_law 412 = .ok (.iconst 1, 1) := by decide +kernel
theorem dL_law_413 : decode cL_law 413 = .ok (.iadd, 1) := by decide +kernel
theorem dL_law_414 : decode cL_law 414 = .ok (.iaload, 1) := by decide +kernel
theorem dL_law_415 : decode cL_law 415 = .ok (.aload_n 0, 1) := by decide +kernel
theorem dL_law_416 : decode cL_law 416 = .ok (.iload 5, 2) := by decide +kernel
theorem dL_law_418 : decode cL_law 418 = .ok (.iconst 2, 1) := by decide +kernel
theorem dL_law_419 : decode cL_law 419 = .ok (.iadd, 1) := by decide +kernel
theorem dL_law_420 : decode cL_law 420 = .ok (.iaload, 1) := by decide +kernel
theorem dL_law_421 : decode cL_law 421 = .ok (.aload_n 0, 1) := by decide +kernel
theorem dL_law_422 : decode cL_law 422 = .ok (.iload 5, 2) := by decide +kernel
theorem dL_law_424 : decode cL_law 424 = .ok (.iconst 3, 1) := by decide +kernel
theorem dL_law_425 : decode cL_law 425 = .ok (.iadd, 1) := by decide +kernel
theorem dL_law_426 : decode cL_law 426 = .ok (.iaload, 1) := by decide +kernel
theorem dL_law_427 : decode cL_law 427 = .ok (.aload_n 3, 1) := by decide +kernel
theorem dL_law_428 : decode cL_law 428 = .ok (.invokestatic 128, 3) := by decide +kernel
theorem dL_law_431 : decode cL_law 431 = .ok (.istore 6, 2) := by decide +kernel
theorem dL_law_433 : decode cL_law 433 = .ok (.aload_n 2, 1) := by decide +kernel
theorem dL_law_434 : decode cL_law 434 = .ok (.aload_n 0, 1) := by decide +kernel
theorem dL_law_435 : decode cL_law 435 = .ok (.iload 5, 2) := by decide +kernel
theorem dL_law_437 : decode cL_law 437 = .ok (.iconst 1, 1) := by decide +kernel
theorem dL_law_438 : decode cL_law 438 = .ok (.iadd, 1) := by decide +kernel
theorem dL_law_439 : decode cL_law 439 = .ok (.iaload, 1) := by decide +kernel
theorem dL_law_440 : decode cL_law 440 = .ok (.aload_n 0, 1) := by decide +kernel
theorem dL_law_441 : decode cL_law 441 = .ok (.iload 5, 2) := by decide +kernel
theorem dL_law_443 : decode cL_law 443 = .ok (.iconst 2, 1) := by decide +kernel
theorem dL_law_444 : decode cL_law 444 = .ok (.iadd, 1) := by decide +kernel
theorem dL_law_445 : decode cL_law 445 = .ok (.iaload, 1) := by decide +kernel
theorem dL_law_446 : decode cL_law 446 = .ok (.aload_n 0, 1) := by decide +kernel
theorem dL_law_447 : decode cL_law 447 = .ok (.iload 5, 2) := by decide +kernel
theorem dL_law_449 : decode cL_law 449 = .ok (.iconst 3, 1) := by decide +kernel
theorem dL_law_450 : decode cL_law 450 = .ok (.iadd, 1) := by decide +kernel
theorem dL_law_451 : decode cL_law 451 = .ok (.iaload, 1) := by decide +kernel
theorem dL_law_452 : decode cL_law 452 = .ok (.invokevirtual 130, 3) := by decide +kernel
theorem dL_law_455 : decode cL_law 455 = .ok (.istore 7, 2) := by decide +kernel
theorem dL_law_457 : decode cL_law 457 = .ok (.aload_n 2, 1) := by decide +kernel
theorem dL_law_458 : decode cL_law 458 = .ok (.invokevirtual 114, 3) := by decide +kernel
theorem dL_law_461 : decode cL_law 461 = .ok (.iload 6, 2) := by decide +kernel
theorem dL_law_463 : decode cL_law 463 = .ok (.if_icmp .eq 5, 3) := by decide +kernel
theorem dL_law_466 : decode cL_law 466 = .ok (.iconst 0, 1) := by decide +kernel
theorem dL_law_467 : decode cL_law 467 = .ok (.ireturn, 1) := by decide +kernel
theorem dL_law_468 : decode cL_law 468 = .ok (.iload 6, 2) := by decide +kernel
theorem dL_law_470 : decode cL_law 470 = .ok (.ifCond .ne 15, 3) := by decide +kernel
theorem dL_law_473 : decode cL_law 473 = .ok (.aload_n 3, 1) := by decide +kernel
theorem dL_law_474 : decode cL_law 474 = .ok (.iconst 0, 1) := by decide +kernel
theorem dL_law_475 : decode cL_law 475 = .ok (.laload, 1) := by decide +kernel
theorem dL_law_476 : decode cL_law 476 = .ok (.iload 7, 2) := by decide +kernel
theorem dL_law_478 : decode cL_law 478 = .ok (.i2l, 1) := by decide +kernel
theorem dL_law_479 : decode cL_law 479 = .ok (.lcmp, 1) := by decide +kernel
theorem dL_law_480 : decode cL_law 480 = .ok (.ifCond .eq 5, 3) := by decide +kernel
theorem dL_law_483 : decode cL_law 483 = .ok (.iconst 0, 1) := by decide +kernel
theorem dL_law_484 : decode cL_law 484 = .ok (.ireturn, 1) := by decide +kernel
theorem dL_law_485 : decode cL_law 485 = .ok (.goto 1362, 3) := by decide +kernel
theorem dL_law_488 : decode cL_law 488 = .ok (.aload_n 1, 1) := by decide +kernel
theorem dL_law_489 : decode cL_law 489 = .ok (.aload_n 0, 1) := by decide +kernel
theorem dL_law_490 : decode cL_law 490 = .ok (.iload 5, 2) := by decide +kernel
theorem dL_law_492 : decode cL_law 492 = .ok (.iconst 1, 1) := by decide +kernel
theorem dL_law_493 : decode cL_law 493 = .ok (.iadd, 1) := by decide +kernel
theorem dL_law_494 : decode cL_law 494 = .ok (.iaload, 1) := by decide +kernel
theorem dL_law_495 : decode cL_law 495 = .ok (.aload_n 0, 1) := by decide +kernel
theorem dL_law_496 : decode cL_law 496 = .ok (.iload 5, 2) := by decide +kernel
theorem dL_law_498 : decode cL_law 498 = .ok (.iconst 2, 1) := by decide +kernel
theorem dL_law_499 : decode cL_law 499 = .ok (.iadd, 1) := by decide +kernel
theorem dL_law_500 : decode cL_law 500 = .ok (.iaload, 1) := by decide +kernel
theorem dL_law_501 : decode cL_law 501 = .ok (.aload_n 3, 1) := by decide +kernel
theorem dL_law_502 : decode cL_law 502 = .ok (.invokestatic 131, 3) := by decide +kernel
theorem dL_law_505 : decode cL_law 505 = .ok (.istore 6, 2) := by decide +kernel
theorem dL_law_507 : decode cL_law 507 = .ok (.aload_n 2, 1) := by decide +kernel
theorem dL_law_508 : decode cL_law 508 = .ok (.aload_n 0, 1) := by decide +kernel
theorem dL_law_509 : decode cL_law 509 = .ok (.iload 5, 2) := by decide +kernel
theorem dL_law_511 : decode cL_law 511 = .ok (.iconst 1, 1) := by decide +kernel
theorem dL_law_512 : decode cL_law 512 = .ok (.iadd, 1) := by decide +kernel
theorem dL_law_513 : decode cL_law 513 = .ok (.iaload, 1) := by decide +kernel
theorem dL_law_514 : decode cL_law 514 = .ok (.aload_n 0, 1) := by decide +kernel
theorem dL_law_515 : decode cL_law 515 = .ok (.iload 5, 2) := by decide +kernel
theorem dL_law_517 : decode cL_law 517 = .ok (.iconst 2, 1) := by decide +kernel
theorem dL_law_518 : decode cL_law 518 = .ok (.iadd, 1) := by decide +kernel
theorem dL_law_519 : decode cL_law 519 = .ok (.iaload, 1) := by decide +kernel
theorem dL_law_520 : decode cL_law 520 = .ok (.invokevirtual 133, 3) := by decide +kernel
theorem dL_law_523 : decode cL_law 523 = .ok (.istore 7, 2) := by decide +kernel
theorem dL_law_525 : decode cL_law 525 = .ok (.aload_n 2, 1) := by decide +kernel
theorem dL_law_526 : decode cL_law 526 = .ok (.invokevirtual 114, 3) := by decide +kernel
theorem dL_law_529 : decode cL_law 529 = .ok (.iload 6, 2) := by decide +kernel
theorem dL_law_531 : decode cL_law 531 = .ok (.if_icmp .eq 5, 3) := by decide +kernel
theorem dL_law_534 : decode cL_law 534 = .ok (.iconst 0, 1) := by decide +kernel
theorem dL_law_535 : decode cL_law 535 = .ok (.ireturn, 1) := by decide +kernel
theorem dL_law_536 : decode cL_law 536 = .ok (.iload 6, 2) := by decide +kernel
theorem dL_law_538 : decode cL_law 538 = .ok (.ifCond .ne 15, 3) := by decide +kernel
theorem dL_law_541 : decode cL_law 541 = .ok (.aload_n 3, 1) := by decide +kernel
theorem dL_law_542 : decode cL_law 542 = .ok (.iconst 0, 1) := by decide +kernel
theorem dL_law_543 : decode cL_law 543 = .ok (.laload, 1) := by decide +kernel
theorem dL_law_544 : decode cL_law 544 = .ok (.iload 7, 2) := by decide +kernel
theorem dL_law_546 : decode cL_law 546 = .ok (.i2l, 1) := by decide +kernel
theorem dL_law_547 : decode cL_law 547 = .ok (.lcmp, 1) := by decide +kernel
theorem dL_law_548 : decode cL_law 548 = .ok (.ifCond .eq 5, 3) := by decide +kernel
theorem dL_law_551 : decode cL_law 551 = .ok (.iconst 0, 1) := by decide +kernel
theorem dL_law_552 : decode cL_law 552 = .ok (.ireturn, 1) := by decide +kernel
theorem dL_law_553 : decode cL_law 553 = .ok (.goto 1294, 3) := by decide +kernel
theorem dL_law_556 : decode cL_law 556 = .ok (.aload_n 1, 1) := by decide +kernel
theorem dL_law_557 : decode cL_law 557 = .ok (.aload_n 0, 1) := by decide +kernel
theorem dL_law_558 : decode cL_law 558 = .ok (.iload 5, 2) := by decide +kernel
theorem dL_law_560 : decode cL_law 560 = .ok (.iconst 1, 1) := by decide +kernel
theorem dL_law_561 : decode cL_law 561 = .ok (.iadd, 1) := by decide +kernel
theorem dL_law_562 : decode cL_law 562 = .ok (.iaload, 1) := by decide +kernel
theorem dL_law_563 : decode cL_law 563 = .ok (.aload_n 0, 1) := by decide +kernel
theorem dL_law_564 : decode cL_law 564 = .ok (.iload 5, 2) := by decide +kernel
theorem dL_law_566 : decode cL_law 566 = .ok (.iconst 2, 1) := by decide +kernel
theorem dL_law_567 : decode cL_law 567 = .ok (.iadd, 1) := by decide +kernel
theorem dL_law_568 : decode cL_law 568 = .ok (.iaload, 1) := by decide +kernel
theorem dL_law_569 : decode cL_law 569 = .ok (.aload_n 3, 1) := by decide +kernel
theorem dL_law_570 : decode cL_law 570 = .ok (.invokestatic 134, 3) := by decide +kernel
theorem dL_law_573 : decode cL_law 573 = .ok (.istore 6, 2) := by decide +kernel
theorem dL_law_575 : decode cL_law 575 = .ok (.aload_n 2, 1) := by decide +kernel
theorem dL_law_576 : decode cL_law 576 = .ok (.aload_n 0, 1) := by decide +kernel
theorem dL_law_577 : decode cL_law 577 = .ok (.iload 5, 2) := by decide +kernel
theorem dL_law_579 : decode cL_law 579 = .ok (.iconst 1, 1) := by decide +kernel
theorem dL_law_580 : decode cL_law 580 = .ok (.iadd, 1) := by decide +kernel
theorem dL_law_581 : decode cL_law 581 = .ok (.iaload, 1) := by decide +kernel
theorem dL_law_582 : decode cL_law 582 = .ok (.aload_n 0, 1) := by decide +kernel
theorem dL_law_583 : decode cL_law 583 = .ok (.iload 5, 2) := by decide +kernel
theorem dL_law_585 : decode cL_law 585 = .ok (.iconst 2, 1) := by decide +kernel
theorem dL_law_586 : decode cL_law 586 = .ok (.iadd, 1) := by decide +kernel
theorem dL_law_587 : decode cL_law 587 = .ok (.iaload, 1) := by decide +kernel
theorem dL_law_588 : decode cL_law 588 = .ok (.invokevirtual 136, 3) := by decide +kernel
theorem dL_law_591 : decode cL_law 591 = .ok (.istore 7, 2) := by decide +kernel
theorem dL_law_593 : decode cL_law 593 = .ok (.aload_n 2, 1) := by decide +kernel
theorem dL_law_594 : decode cL_law 594 = .ok (.invokevirtual 114, 3) := by decide +kernel
theorem dL_law_597 : decode cL_law 597 = .ok (.iload 6, 2) := by decide +kernel
theorem dL_law_599 : decode cL_law 599 = .ok (.if_icmp .eq 5, 3) := by decide +kernel
theorem dL_law_602 : decode cL_law 602 = .ok (.iconst 0, 1) := by decide +kernel
theorem dL_law_603 : decode cL_law 603 = .ok (.ireturn, 1) := by decide +kernel
theorem dL_law_604 : decode cL_law 604 = .ok (.iload 6, 2) := by decide +kernel
theorem dL_law_606 : decode cL_law 606 = .ok (.ifCond .ne 22, 3) := by decide +kernel
theorem dL_law_609 : decode cL_law 609 = .ok (.aload_n 3, 1) := by decide +kernel
theorem dL_law_610 : decode cL_law 610 = .ok (.iconst 0, 1) := by decide +kernel
theorem dL_law_611 : decode cL_law 611 = .ok (.laload, 1) := by decide +kernel
theorem dL_law_612 : decode cL_law 612 = .ok (.iload 7, 2) := by decide +kernel
theorem dL_law_614 : decode cL_law 614 = .ok (.ifCond .eq 7, 3) := by decide +kernel
theorem dL_law_617 : decode cL_law 617 = .ok (.lconst 1, 1) := by decide +kernel
theorem dL_law_618 : decode cL_law 618 = .ok (.goto 4, 3) := by decide +kernel
theorem dL_law_621 : decode cL_law 621 = .ok (.lconst 0, 1) := by decide +kernel
theorem dL_law_622 : decode cL_law 622 = .ok (.lcmp, 1) := by decide +kernel
theorem dL_law_623 : decode cL_law 623 = .ok (.ifCond .eq 5, 3) := by decide +kernel
theorem dL_law_626 : decode cL_law 626 = .ok (.iconst 0, 1) := by decide +kernel
theorem dL_law_627 : decode cL_law 627 = .ok (.ireturn, 1) := by decide +kernel
theorem dL_law_628 : decode cL_law 628 = .ok (.goto 1219, 3) := by decide +kernel
theorem dL_law_631 : decode cL_law 631 = .ok (.aload_n 1, 1) := by decide +kernel
theorem dL_law_632 : decode cL_law 632 = .ok (.invokevirtual 137, 3) := by decide +kernel
theorem dL_law_635 : decode cL_law 635 = .ok (.aload_n 2, 1) := by decide +kernel
theorem dL_law_636 : decode cL_law 636 = .ok (.invokevirtual 140, 3) := by decide +kernel
theorem dL_law_639 : decode cL_law 639 = .ok (.if_icmp .eq 1208, 3) := by decide +kernel
theorem dL_law_642 : decode cL_law 642 = .ok (.iconst 0, 1) := by decide +kernel
theorem dL_law_643 : decode cL_law 643 = .ok (.ireturn, 1) := by decide +kernel
theorem dL_law_644 : decode cL_law 644 = .ok (.aload_n 1, 1) := by decide +kernel
theorem dL_law_645 : decode cL_law 645 = .ok (.aload_n 0, 1) := by decide +kernel
theorem dL_law_646 : decode cL_law 646 = .ok (.iload 5, 2) := by decide +kernel
theorem dL_law_648 : decode cL_law 648 = .ok (.iconst 1, 1) := by decide +kernel
theorem dL_law_649 : decode cL_law 649 = .ok (.iadd, 1) := by decide +kernel
theorem dL_law_650 : decode cL_law 650 = .ok (.iaload, 1) := by decide +kernel
theorem dL_law_651 : decode cL_law 651 = .ok (.aload_n 0, 1) := by decide +kernel
theorem dL_law_652 : decode cL_law 652 = .ok (.iload 5, 2) := by decide +kernel
theorem dL_law_654 : decode cL_law 654 = .ok (.iconst 2, 1) := by decide +kernel
theorem dL_law_655 : decode cL_law 655 = .ok (.iadd, 1) := by decide +kernel
theorem dL_law_656 : decode cL_law 656 = .ok (.iaload, 1) := by decide +kernel
theorem dL_law_657 : decode cL_law 657 = .ok (.aload_n 3, 1) := by decide +kernel
theorem dL_law_658 : decode cL_law 658 = .ok (.invokestatic 141, 3) := by decide +kernel
theorem dL_law_661 : decode cL_law 661 = .ok (.istore 6, 2) := by decide +kernel
theorem dL_law_663 : decode cL_law 663 = .ok (.aload_n 2, 1) := by decide +kernel
theorem dL_law_664 : decode cL_law 664 = .ok (.aload_n 0, 1) := by decide +kernel
theorem dL_law_665 : decode cL_law 665 = .ok (.iload 5, 2) := by decide +kernel
theorem dL_law_667 : decode cL_law 667 = .ok (.iconst 1, 1) := by decide +kernel
theorem dL_law_668 : decode cL_law 668 = .ok (.iadd, 1) := by decide +kernel
theorem dL_law_669 : decode cL_law 669 = .ok (.iaload, 1) := by decide +kernel
theorem dL_law_670 : decode cL_law 670 = .ok (.aload_n 0, 1) := by decide +kernel
theorem dL_law_671 : decode cL_law 671 = .ok (.iload 5, 2) := by decide +kernel
theorem dL_law_673 : decode cL_law 673 = .ok (.iconst 2, 1) := by decide +kernel
theorem dL_law_674 : decode cL_law 674 = .ok (.iadd, 1) := by decide +kernel
theorem dL_law_675 : decode cL_law 675 = .ok (.iaload, 1) := by decide +kernel
theorem dL_law_676 : decode cL_law 676 = .ok (.invokevirtual 143, 3) := by decide +kernel
theorem dL_law_679 : decode cL_law 679 = .ok (.istore 7, 2) := by decide +kernel
theorem dL_law_681 : decode cL_law 681 = .ok (.aload_n 2, 1) := by decide +kernel
theorem dL_law_682 : decode cL_law 682 = .ok (.invokevirtual 114, 3) := by decide +kernel
theorem dL_law_685 : decode cL_law 685 = .ok (.iload 6, 2) := by decide +kernel
theorem dL_law_687 : decode cL_law 687 = .ok (.if_icmp .eq 5, 3) := by decide +kernel
theorem dL_law_690 : decode cL_law 690 = .ok (.iconst 0, 1) := by decide +kernel
theorem dL_law_691 : decode cL_law 691 = .ok (.ireturn, 1) := by decide +kernel
theorem dL_law_692 : decode cL_law 692 = .ok (.iload 6, 2) := by decide +kernel
theorem dL_law_694 : decode cL_law 694 = .ok (.ifCond .ne 15, 3) := by decide +kernel
theorem dL_law_697 : decode cL_law 697 = .ok (.aload_n 3, 1) := by decide +kernel
theorem dL_law_698 : decode cL_law 698 = .ok (.iconst 0, 1) := by decide +kernel
theorem dL_law_699 : decode cL_law 699 = .ok (.laload, 1) := by decide +kernel
theorem dL_law_700 : decode cL_law 700 = .ok (.iload 7, 2) := by decide +kernel
theorem dL_law_702 : decode cL_law 702 = .ok (.i2l, 1) := by decide +kernel
theorem dL_law_703 : decode cL_law 703 = .ok (.lcmp, 1) := by decide +kernel
theorem dL_law_704 : decode cL_law 704 = .ok (.ifCond .eq 5, 3) := by decide +kernel
theorem dL_law_707 : decode cL_law 707 = .ok (.iconst 0, 1) := by decide +kernel
theorem dL_law_708 : decode cL_law 708 = .ok (.ireturn, 1) := by decide +kernel
theorem dL_law_709 : decode cL_law 709 = .ok (.goto 1138, 3) := by decide +kernel
theorem dL_law_712 : decode cL_law 712 = .ok (.aload_n 1, 1) := by decide +kernel
theorem dL_law_713 : decode cL_law 713 = .ok (.aload_n 0, 1) := by decide +kernel
theorem dL_law_714 : decode cL_law 714 = .ok (.iload 5, 2) := by decide +kernel
theorem dL_law_716 : decode cL_law 716 = .ok (.iconst 1, 1) := by decide +kernel
theorem dL_law_717 : decode cL_law 717 = .ok (.iadd, 1) := by decide +kernel
theorem dL_law_718 : decode cL_law 718 = .ok (.iaload, 1) := by decide +kernel
theorem dL_law_719 : decode cL_law 719 = .ok (.aload_n 0, 1) := by decide +kernel
theorem dL_law_720 : decode cL_law 720 = .ok (.iload 5, 2) := by decide +kernel
theorem dL_law_722 : decode cL_law 722 = .ok (.iconst 2, 1) := by decide +kernel
theorem dL_law_723 : decode cL_law 723 = .ok (.iadd, 1) := by decide +kernel
theorem dL_law_724 : decode cL_law 724 = .ok (.iaload, 1) := by decide +kernel
theorem dL_law_725 : decode cL_law 725 = .ok (.aload_n 0, 1) := by decide +kernel
theorem dL_law_726 : decode cL_law 726 = .ok (.iload 5, 2) := by decide +kernel
theorem dL_law_728 : decode cL_law 728 = .ok (.iconst 3, 1) := by decide +kernel
theorem dL_law_729 : decode cL_law 729 = .ok (.iadd, 1) := by decide +kernel
theorem dL_law_730 : decode cL_law 730 = .ok (.iaload, 1) := by decide +kernel
theorem dL_law_731 : decode cL_law 731 = .ok (.aload_n 3, 1) := by decide +kernel
theorem dL_law_732 : decode cL_law 732 = .ok (.invokestatic 144, 3) := by decide +kernel
theorem dL_law_735 : decode cL_law 735 = .ok (.istore 6, 2) := by decide +kernel
theorem dL_law_737 : decode cL_law 737 = .ok (.aload_n 2, 1) := by decide +kernel
theorem dL_law_738 : decode cL_law 738 = .ok (.aload_n 0, 1) := by decide +kernel
theorem dL_law_739 : decode cL_law 739 = .ok (.iload 5, 2) := by decide +kernel
theorem dL_law_741 : decode cL_law 741 = .ok (.iconst 1, 1) := by decide +kernel
theorem dL_law_742 : decode cL_law 742 = .ok (.iadd, 1) := by decide +kernel
theorem dL_law_743 : decode cL_law 743 = .ok (.iaload, 1) := by decide +kernel
theorem dL_law_744 : decode cL_law 744 = .ok (.aload_n 0, 1) := by decide +kernel
theorem dL_law_745 : decode cL_law 745 = .ok (.iload 5, 2) := by decide +kernel
theorem dL_law_747 : decode cL_law 747 = .ok (.iconst 2, 1) := by decide +kernel
theorem dL_law_748 : decode cL_law 748 = .ok (.iadd, 1) := by decide +kernel
theorem dL_law_749 : decode cL_law 749 = .ok (.iaload, 1) := by decide +kernel
theorem dL_law_750 : decode cL_law 750 = .ok (.aload_n 0, 1) := by decide +kernel
theorem dL_law_751 : decode cL_law 751 = .ok (.iload 5, 2) := by decide +kernel
theorem dL_law_753 : decode cL_law 753 = .ok (.iconst 3, 1) := by decide +kernel
theorem dL_law_754 : decode cL_law 754 = .ok (.iadd, 1) := by decide +kernel
theorem dL_law_755 : decode cL_law 755 = .ok (.iaload, 1) := by decide +kernel
theorem dL_law_756 : decode cL_law 756 = .ok (.invokevirtual 146, 3) := by decide +kernel
theorem dL_law_759 : decode cL_law 759 = .ok (.istore 7, 2) := by decide +kernel
theorem dL_law_761 : decode cL_law 761 = .ok (.aload_n 2, 1) := by decide +kernel
theorem dL_law_762 : decode cL_law 762 = .ok (.invokevirtual 114, 3) := by decide +kernel
theorem dL_law_765 : decode cL_law 765 = .ok (.iload 6, 2) := by decide +kernel
theorem dL_law_767 : decode cL_law 767 = .ok (.if_icmp .eq 5, 3) := by decide +kernel
theorem dL_law_770 : decode cL_law 770 = .ok (.iconst 0, 1) := by decide +kernel
theorem dL_law_771 : decode cL_law 771 = .ok (.ireturn, 1) := by decide +kernel
theorem dL_law_772 : decode cL_law 772 = .ok (.iload 6, 2) := by decide +kernel
theorem dL_law_774 : decode cL_law 774 = .ok (.ifCond .ne 15, 3) := by decide +kernel
theorem dL_law_777 : decode cL_law 777 = .ok (.aload_n 3, 1) := by decide +kernel
theorem dL_law_778 : decode cL_law 778 = .ok (.iconst 0, 1) := by decide +kernel
theorem dL_law_779 : decode cL_law 779 = .ok (.laload, 1) := by decide +kernel
theorem dL_law_780 : decode cL_law 780 = .ok (.iload 7, 2) := by decide +kernel
theorem dL_law_782 : decode cL_law 782 = .ok (.i2l, 1) := by decide +kernel
theorem dL_law_783 : decode cL_law 783 = .ok (.lcmp, 1) := by decide +kernel
theorem dL_law_784 : decode cL_law 784 = .ok (.ifCond .eq 5, 3) := by decide +kernel
theorem dL_law_787 : decode cL_law 787 = .ok (.iconst 0, 1) := by decide +kernel
theorem dL_law_788 : decode cL_law 788 = .ok (.ireturn, 1) := by decide +kernel
theorem dL_law_789 : decode cL_law 789 = .ok (.goto 1058, 3) := by decide +kernel
theorem dL_law_792 : decode cL_law 792 = .ok (.aload_n 1, 1) := by decide +kernel
theorem dL_law_793 : decode cL_law 793 = .ok (.aload_n 0, 1) := by decide +kernel
theorem dL_law_794 : decode cL_law 794 = .ok (.iload 5, 2) := by decide +kernel
theorem dL_law_796 : decode cL_law 796 = .ok (.iconst 1, 1) := by decide +kernel
theorem dL_law_797 : decode cL_law 797 = .ok (.iadd, 1) := by decide +kernel
theorem dL_law_798 : decode cL_law 798 = .ok (.iaload, 1) := by decide +kernel
theorem dL_law_799 : decode cL_law 799 = .ok (.aload_n 0, 1) := by decide +kernel
theorem dL_law_800 : decode cL_law 800 = .ok (.iload 5, 2) := by decide +kernel
theorem dL_law_802 : decode cL_law 802 = .ok (.iconst 2, 1) := by decide +kernel
theorem dL_law_803 : decode cL_law 803 = .ok (.iadd, 1) := by decide +kernel
theorem dL_law_804 : decode cL_law 804 = .ok (.iaload, 1) := by decide +kernel
theorem dL_law_805 : decode cL_law 805 = .ok (.aload_n 0, 1) := by decide +kernel
theorem dL_law_806 : decode cL_law 806 = .ok (.iload 5, 2) := by decide +kernel
theorem dL_law_808 : decode cL_law 808 = .ok (.iconst 3, 1) := by decide +kernel
theorem dL_law_809 : decode cL_law 809 = .ok (.iadd, 1) := by decide +kernel
theorem dL_law_810 : decode cL_law 810 = .ok (.iaload, 1) := by decide +kernel
theorem dL_law_811 : decode cL_law 811 = .ok (.aload_n 3, 1) := by decide +kernel
theorem dL_law_812 : decode cL_law 812 = .ok (.invokestatic 147, 3) := by decide +kernel
theorem dL_law_815 : decode cL_law 815 = .ok (.istore 6, 2) := by decide +kernel
theorem dL_law_817 : decode cL_law 817 = .ok (.aload_n 2, 1) := by decide +kernel
theorem dL_law_818 : decode cL_law 818 = .ok (.aload_n 0, 1) := by decide +kernel
theorem dL_law_819 : decode cL_law 819 = .ok (.iload 5, 2) := by decide +kernel
theorem dL_law_821 : decode cL_law 821 = .ok (.iconst 1, 1) := by decide +kernel
theorem dL_law_822 : decode cL_law 822 = .ok (.iadd, 1) := by decide +kernel
theorem dL_law_823 : decode cL_law 823 = .ok (.iaload, 1) := by decide +kernel
theorem dL_law_824 : decode cL_law 824 = .ok (.aload_n 0, 1) := by decide +kernel
theorem dL_law_825 : decode cL_law 825 = .ok (.iload 5, 2) := by decide +kernel
theorem dL_law_827 : decode cL_law 827 = .ok (.iconst 2, 1) := by decide +kernel
theorem dL_law_828 : decode cL_law 828 = .ok (.iadd, 1) := by decide +kernel
theorem dL_law_829 : decode cL_law 829 = .ok (.iaload, 1) := by decide +kernel
theorem dL_law_830 : decode cL_law 830 = .ok (.aload_n 0, 1) := by decide +kernel
theorem dL_law_831 : decode cL_law 831 = .ok (.iload 5, 2) := by decide +kernel
theorem dL_law_833 : decode cL_law 833 = .ok (.iconst 3, 1) := by decide +kernel
theorem dL_law_834 : decode cL_law 834 = .ok (.iadd, 1) := by decide +kernel
theorem dL_law_835 : decode cL_law 835 = .ok (.iaload, 1) := by decide +kernel
theorem dL_law_836 : decode cL_law 836 = .ok (.invokevirtual 149, 3) := by decide +kernel
theorem dL_law_839 : decode cL_law 839 = .ok (.istore 7, 2) := by decide +kernel
theorem dL_law_841 : decode cL_law 841 = .ok (.aload_n 2, 1) := by decide +kernel
theorem dL_law_842 : decode cL_law 842 = .ok (.invokevirtual 114, 3) := by decide +kernel
theorem dL_law_845 : decode cL_law 845 = .ok (.iload 6, 2) := by decide +kernel
theorem dL_law_847 : decode cL_law 847 = .ok (.if_icmp .eq 5, 3) := by decide +kernel
theorem dL_law_850 : decode cL_law 850 = .ok (.iconst 0, 1) := by decide +kernel
theorem dL_law_851 : decode cL_law 851 = .ok (.ireturn, 1) := by decide +kernel
theorem dL_law_852 : decode cL_law 852 = .ok (.iload 6, 2) := by decide +kernel
theorem dL_law_854 : decode cL_law 854 = .ok (.ifCond .ne 15, 3) := by decide +kernel
theorem dL_law_857 : decode cL_law 857 = .ok (.aload_n 3, 1) := by decide +kernel
theorem dL_law_858 : decode cL_law 858 = .ok (.iconst 0, 1) := by decide +kernel
theorem dL_law_859 : decode cL_law 859 = .ok (.laload, 1) := by decide +kernel
theorem dL_law_860 : decode cL_law 860 = .ok (.iload 7, 2) := by decide +kernel
theorem dL_law_862 : decode cL_law 862 = .ok (.i2l, 1) := by decide +kernel
theorem dL_law_863 : decode cL_law 863 = .ok (.lcmp, 1) := by decide +kernel
theorem dL_law_864 : decode cL_law 864 = .ok (.ifCond .eq 5, 3) := by decide +kernel
theorem dL_law_867 : decode cL_law 867 = .ok (.iconst 0, 1) := by decide +kernel
theorem dL_law_868 : decode cL_law 868 = .ok (.ireturn, 1) := by decide +kernel
theorem dL_law_869 : decode cL_law 869 = .ok (.goto 978, 3) := by decide +kernel
theorem dL_law_872 : decode cL_law 872 = .ok (.aload_n 1, 1) := by decide +kernel
theorem dL_law_873 : decode cL_law 873 = .ok (.aload_n 0, 1) := by decide +kernel
theorem dL_law_874 : decode cL_law 874 = .ok (.iload 5, 2) := by decide +kernel
theorem dL_law_876 : decode cL_law 876 = .ok (.iconst 1, 1) := by decide +kernel
theorem dL_law_877 : decode cL_law 877 = .ok (.iadd, 1) := by decide +kernel
theorem dL_law_878 : decode cL_law 878 = .ok (.iaload, 1) := by decide +kernel
theorem dL_law_879 : decode cL_law 879 = .ok (.aload_n 0, 1) := by decide +kernel
theorem dL_law_880 : decode cL_law 880 = .ok (.iload 5, 2) := by decide +kernel
theorem dL_law_882 : decode cL_law 882 = .ok (.iconst 2, 1) := by decide +kernel
theorem dL_law_883 : decode cL_law 883 = .ok (.iadd, 1) := by decide +kernel
theorem dL_law_884 : decode cL_law 884 = .ok (.iaload, 1) := by decide +kernel
theorem dL_law_885 : decode cL_law 885 = .ok (.ifCond .eq 7, 3) := by decide +kernel
theorem dL_law_888 : decode cL_law 888 = .ok (.iconst 1, 1) := by decide +kernel
theorem dL_law_889 : decode cL_law 889 = .ok (.goto 4, 3) := by decide +kernel
theorem dL_law_892 : decode cL_law 892 = .ok (.iconst 0, 1) := by decide +kernel
theorem dL_law_893 : decode cL_law 893 = .ok (.aload_n 3, 1) := by decide +kernel
theorem dL_law_894 : decode cL_law 894 = .ok (.invokestatic 150, 3) := by decide +kernel
theorem dL_law_897 : decode cL_law 897 = .ok (.istore 6, 2) := by decide +kernel
theorem dL_law_899 : decode cL_law 899 = .ok (.aload_n 2, 1) := by decide +kernel
theorem dL_law_900 : decode cL_law 900 = .ok (.aload_n 0, 1) := by decide +kernel
theorem dL_law_901 : decode cL_law 901 = .ok (.iload 5, 2) := by decide +kernel
theorem dL_law_903 : decode cL_law 903 = .ok (.iconst 1, 1) := by decide +kernel
theorem dL_law_904 : decode cL_law 904 = .ok (.iadd, 1) := by decide +kernel
theorem dL_law_905 : decode cL_law 905 = .ok (.iaload, 1) := by decide +kernel
theorem dL_law_906 : decode cL_law 906 = .ok (.aload_n 0, 1) := by decide +kernel
theorem dL_law_907 : decode cL_law 907 = .ok (.iload 5, 2) := by decide +kernel
theorem dL_law_909 : decode cL_law 909 = .ok (.iconst 2, 1) := by decide +kernel
theorem dL_law_910 : decode cL_law 910 = .ok (.iadd, 1) := by decide +kernel
theorem dL_law_911 : decode cL_law 911 = .ok (.iaload, 1) := by decide +kernel
theorem dL_law_912 : decode cL_law 912 = .ok (.ifCond .eq 7, 3) := by decide +kernel
theorem dL_law_915 : decode cL_law 915 = .ok (.iconst 1, 1) := by decide +kernel
theorem dL_law_916 : decode cL_law 916 = .ok (.goto 4, 3) := by decide +kernel
theorem dL_law_919 : decode cL_law 919 = .ok (.iconst 0, 1) := by decide +kernel
theorem dL_law_920 : decode cL_law 920 = .ok (.invokevirtual 153, 3) := by decide +kernel
theorem dL_law_923 : decode cL_law 923 = .ok (.istore 7, 2) := by decide +kernel
theorem dL_law_925 : decode cL_law 925 = .ok (.aload_n 2, 1) := by decide +kernel
theorem dL_law_926 : decode cL_law 926 = .ok (.invokevirtual 114, 3) := by decide +kernel
theorem dL_law_929 : decode cL_law 929 = .ok (.iload 6, 2) := by decide +kernel
theorem dL_law_931 : decode cL_law 931 = .ok (.if_icmp .eq 5, 3) := by decide +kernel
theorem dL_law_934 : decode cL_law 934 = .ok (.iconst 0, 1) := by decide +kernel
theorem dL_law_935 : decode cL_law 935 = .ok (.ireturn, 1) := by decide +kernel
theorem dL_law_936 : decode cL_law 936 = .ok (.iload 6, 2) := by decide +kernel
theorem dL_law_938 : decode cL_law 938 = .ok (.ifCond .ne 22, 3) := by decide +kernel
theorem dL_law_941 : decode cL_law 941 = .ok (.aload_n 3, 1) := by decide +kernel
theorem dL_law_942 : decode cL_law 942 = .ok (.iconst 0, 1) := by decide +kernel
theorem dL_law_943 : decode cL_law 943 = .ok (.laload, 1) := by decide +kernel
theorem dL_law_944 : decode cL_law 944 = .ok (.iload 7, 2) := by decide +kernel
theorem dL_law_946 : decode cL_law 946 = .ok (.ifCond .eq 7, 3) := by decide +kernel
theorem dL_law_949 : decode cL_law 949 = .ok (.lconst 1, 1) := by decide +kernel
theorem dL_law_950 : decode cL_law 950 = .ok (.goto 4, 3) := by decide +kernel
theorem dL_law_953 : decode cL_law 953 = .ok (.lconst 0, 1) := by decide +kernel
theorem dL_law_954 : decode cL_law 954 = .ok (.lcmp, 1) := by decide +kernel
theorem dL_law_955 : decode cL_law 955 = .ok (.ifCond .eq 5, 3) := by decide +kernel
theorem dL_law_958 : decode cL_law 958 = .ok (.iconst 0, 1) := by decide +kernel
theorem dL_law_959 : decode cL_law 959 = .ok (.ireturn, 1) := by decide +kernel
theorem dL_law_960 : decode cL_law 960 = .ok (.goto 887, 3) := by decide +kernel
theorem dL_law_963 : decode cL_law 963 = .ok (.aload_n 1, 1) := by decide +kernel
theorem dL_law_964 : decode cL_law 964 = .ok (.aload_n 0, 1) := by decide +kernel
theorem dL_law_965 : decode cL_law 965 = .ok (.iload 5, 2) := by decide +kernel
theorem dL_law_967 : decode cL_law 967 = .ok (.iconst 1, 1) := by decide +kernel
theorem dL_law_968 : decode cL_law 968 = .ok (.iadd, 1) := by decide +kernel
theorem dL_law_969 : decode cL_law 969 = .ok (.iaload, 1) := by decide +kernel
theorem dL_law_970 : decode cL_law 970 = .ok (.aload_n 3, 1) := by decide +kernel
theorem dL_law_971 : decode cL_law 971 = .ok (.invokestatic 154, 3) := by decide +kernel
theorem dL_law_974 : decode cL_law 974 = .ok (.istore 6, 2) := by decide +kernel
theorem dL_law_976 : decode cL_law 976 = .ok (.aload_n 2, 1) := by decide +kernel
theorem dL_law_977 : decode cL_law 977 = .ok (.aload_n 0, 1) := by decide +kernel
theorem dL_law_978 : decode cL_law 978 = .ok (.iload 5, 2) := by decide +kernel
theorem dL_law_980 : decode cL_law 980 = .ok (.iconst 1, 1) := by decide +kernel
theorem dL_law_981 : decode cL_law 981 = .ok (.iadd, 1) := by decide +kernel
theorem dL_law_982 : decode cL_law 982 = .ok (.iaload, 1) := by decide +kernel
theorem dL_law_983 : decode cL_law 983 = .ok (.invokevirtual 157, 3) := by decide +kernel
theorem dL_law_986 : decode cL_law 986 = .ok (.istore 7, 2) := by decide +kernel
theorem dL_law_988 : decode cL_law 988 = .ok (.aload_n 2, 1) := by decide +kernel
theorem dL_law_989 : decode cL_law 989 = .ok (.invokevirtual 114, 3) := by decide +kernel
theorem dL_law_992 : decode cL_law 992 = .ok (.iload 6, 2) := by decide +kernel
theorem dL_law_994 : decode cL_law 994 = .ok (.if_icmp .eq 5, 3) := by decide +kernel
theorem dL_law_997 : decode cL_law 997 = .ok (.iconst 0, 1) := by decide +kernel
theorem dL_law_998 : decode cL_law 998 = .ok (.ireturn, 1) := by decide +kernel
theorem dL_law_999 : decode cL_law 999 = .ok (.iload 6, 2) := by decide +kernel
theorem dL_law_1001 : decode cL_law 1001 = .ok (.ifCond .ne 15, 3) := by decide +kernel
theorem dL_law_1004 : decode cL_law 1004 = .ok (.aload_n 3, 1) := by decide +kernel
theorem dL_law_1005 : decode cL_law 1005 = .ok (.iconst 0, 1) := by decide +kernel
theorem dL_law_1006 : decode cL_law 1006 = .ok (.laload, 1) := by decide +kernel
theorem dL_law_1007 : decode cL_law 1007 = .ok (.iload 7, 2) := by decide +kernel
theorem dL_law_1009 : decode cL_law 1009 = .ok (.i2l, 1) := by decide +kernel
theorem dL_law_1010 : decode cL_law 1010 = .ok (.lcmp, 1) := by decide +kernel
theorem dL_law_1011 : decode cL_law 1011 = .ok (.ifCond .eq 5, 3) := by decide +kernel
theorem dL_law_1014 : decode cL_law 1014 = .ok (.iconst 0, 1) := by decide +kernel
theorem dL_law_1015 : decode cL_law 1015 = .ok (.ireturn, 1) := by decide +kernel
theorem dL_law_1016 : decode cL_law 1016 = .ok (.goto 831, 3) := by decide +kernel
theorem dL_law_1019 : decode cL_law 1019 = .ok (.aload_n 1, 1) := by decide +kernel
theorem dL_law_1020 : decode cL_law 1020 = .ok (.aload_n 0, 1) := by decide +kernel
theorem dL_law_1021 : decode cL_law 1021 = .ok (.iload 5, 2) := by decide +kernel
theorem dL_law_1023 : decode cL_law 1023 = .ok (.iconst 1, 1) := by decide +kernel
theorem dL_law_1024 : decode cL_law 1024 = .ok (.iadd, 1) := by decide +kernel
theorem dL_law_1025 : decode cL_law 1025 = .ok (.iaload, 1) := by decide +kernel
theorem dL_law_1026 : decode cL_law 1026 = .ok (.aload_n 0, 1) := by decide +kernel
theorem dL_law_1027 : decode cL_law 1027 = .ok (.iload 5, 2) := by decide +kernel
theorem dL_law_1029 : decode cL_law 1029 = .ok (.iconst 2, 1) := by decide +kernel
theorem dL_law_1030 : decode cL_law 1030 = .ok (.iadd, 1) := by decide +kernel
theorem dL_law_1031 : decode cL_law 1031 = .ok (.iaload, 1) := by decide +kernel
theorem dL_law_1032 : decode cL_law 1032 = .ok (.aload_n 3, 1) := by decide +kernel
theorem dL_law_1033 : decode cL_law 1033 = .ok (.invokestatic 158, 3) := by decide +kernel
theorem dL_law_1036 : decode cL_law 1036 = .ok (.istore 6, 2) := by decide +kernel
theorem dL_law_1038 : decode cL_law 1038 = .ok (.aload_n 2, 1) := by decide +kernel
theorem dL_law_1039 : decode cL_law 1039 = .ok (.aload_n 0, 1) := by decide +kernel
theorem dL_law_1040 : decode cL_law 1040 = .ok (.iload 5, 2) := by decide +kernel
theorem dL_law_1042 : decode cL_law 1042 = .ok (.iconst 1, 1) := by decide +kernel
theorem dL_law_1043 : decode cL_law 1043 = .ok (.iadd, 1) := by decide +kernel
theorem dL_law_1044 : decode cL_law 1044 = .ok (.iaload, 1) := by decide +kernel
theorem dL_law_1045 : decode cL_law 1045 = .ok (.aload_n 0, 1) := by decide +kernel
theorem dL_law_1046 : decode cL_law 1046 = .ok (.iload 5, 2) := by decide +kernel
theorem dL_law_1048 : decode cL_law 1048 = .ok (.iconst 2, 1) := by decide +kernel
theorem dL_law_1049 : decode cL_law 1049 = .ok (.iadd, 1) := by decide +kernel
theorem dL_law_1050 : decode cL_law 1050 = .ok (.iaload, 1) := by decide +kernel
theorem dL_law_1051 : decode cL_law 1051 = .ok (.invokevirtual 160, 3) := by decide +kernel
theorem dL_law_1054 : decode cL_law 1054 = .ok (.istore 7, 2) := by decide +kernel
theorem dL_law_1056 : decode cL_law 1056 = .ok (.aload_n 2, 1) := by decide +kernel
theorem dL_law_1057 : decode cL_law 1057 = .ok (.invokevirtual 114, 3) := by decide +kernel
theorem dL_law_1060 : decode cL_law 1060 = .ok (.iload 6, 2) := by decide +kernel
theorem dL_law_1062 : decode cL_law 1062 = .ok (.if_icmp .eq 5, 3) := by decide +kernel
theorem dL_law_1065 : decode cL_law 1065 = .ok (.iconst 0, 1) := by decide +kernel
theorem dL_law_1066 : decode cL_law 1066 = .ok (.ireturn, 1) := by decide +kernel
theorem dL_law_1067 : decode cL_law 1067 = .ok (.iload 6, 2) := by decide +kernel
theorem dL_law_1069 : decode cL_law 1069 = .ok (.ifCond .ne 15, 3) := by decide +kernel
theorem dL_law_1072 : decode cL_law 1072 = .ok (.aload_n 3, 1) := by decide +kernel
theorem dL_law_1073 : decode cL_law 1073 = .ok (.iconst 0, 1) := by decide +kernel
theorem dL_law_1074 : decode cL_law 1074 = .ok (.laload, 1) := by decide +kernel
theorem dL_law_1075 : decode cL_law 1075 = .ok (.iload 7, 2) := by decide +kernel
theorem dL_law_1077 : decode cL_law 1077 = .ok (.i2l, 1) := by decide +kernel
theorem dL_law_1078 : decode cL_law 1078 = .ok (.lcmp, 1) := by decide +kernel
theorem dL_law_1079 : decode cL_law 1079 = .ok (.ifCond .eq 5, 3) := by decide +kernel
theorem dL_law_1082 : decode cL_law 1082 = .ok (.iconst 0, 1) := by decide +kernel
theorem dL_law_1083 : decode cL_law 1083 = .ok (.ireturn, 1) := by decide +kernel
theorem dL_law_1084 : decode cL_law 1084 = .ok (.goto 763, 3) := by decide +kernel
theorem dL_law_1087 : decode cL_law 1087 = .ok (.aload_n 1, 1) := by decide +kernel
theorem dL_law_1088 : decode cL_law 1088 = .ok (.aload_n 0, 1) := by decide +kernel
theorem dL_law_1089 : decode cL_law 1089 = .ok (.iload 5, 2) := by decide +kernel
theorem dL_law_1091 : decode cL_law 1091 = .ok (.iconst 1, 1) := by decide +kernel
theorem dL_law_1092 : decode cL_law 1092 = .ok (.iadd, 1) := by decide +kernel
theorem dL_law_1093 : decode cL_law 1093 = .ok (.iaload, 1) := by decide +kernel
theorem dL_law_1094 : decode cL_law 1094 = .ok (.aload_n 0, 1) := by decide +kernel
theorem dL_law_1095 : decode cL_law 1095 = .ok (.iload 5, 2) := by decide +kernel
theorem dL_law_1097 : decode cL_law 1097 = .ok (.iconst 2, 1) := by decide +kernel
theorem dL_law_1098 : decode cL_law 1098 = .ok (.iadd, 1) := by decide +kernel
theorem dL_law_1099 : decode cL_law 1099 = .ok (.iaload, 1) := by decide +kernel
theorem dL_law_1100 : decode cL_law 1100 = .ok (.aload_n 3, 1) := by decide +kernel
theorem dL_law_1101 : decode cL_law 1101 = .ok (.invokestatic 161, 3) := by decide +kernel
theorem dL_law_1104 : decode cL_law 1104 = .ok (.istore 6, 2) := by decide +kernel
theorem dL_law_1106 : decode cL_law 1106 = .ok (.aload_n 2, 1) := by decide +kernel
theorem dL_law_1107 : decode cL_law 1107 = .ok (.aload_n 0, 1) := by decide +kernel
theorem dL_law_1108 : decode cL_law 1108 = .ok (.iload 5, 2) := by decide +kernel
theorem dL_law_1110 : decode cL_law 1110 = .ok (.iconst 1, 1) := by decide +kernel
theorem dL_law_1111 : decode cL_law 1111 = .ok (.iadd, 1) := by decide +kernel
theorem dL_law_1112 : decode cL_law 1112 = .ok (.iaload, 1) := by decide +kernel
theorem dL_law_1113 : decode cL_law 1113 = .ok (.aload_n 0, 1) := by decide +kernel
theorem dL_law_1114 : decode cL_law 1114 = .ok (.iload 5, 2) := by decide +kernel
theorem dL_law_1116 : decode cL_law 1116 = .ok (.iconst 2, 1) := by decide +kernel
theorem dL_law_1117 : decode cL_law 1117 = .ok (.iadd, 1) := by decide +kernel
theorem dL_law_1118 : decode cL_law 1118 = .ok (.iaload, 1) := by decide +kernel
theorem dL_law_1119 : decode cL_law 1119 = .ok (.invokevirtual 163, 3) := by decide +kernel
theorem dL_law_1122 : decode cL_law 1122 = .ok (.istore 7, 2) := by decide +kernel
theorem dL_law_1124 : decode cL_law 1124 = .ok (.aload_n 2, 1) := by decide +kernel
theorem dL_law_1125 : decode cL_law 1125 = .ok (.invokevirtual 114, 3) := by decide +kernel
theorem dL_law_1128 : decode cL_law 1128 = .ok (.iload 6, 2) := by decide +kernel
theorem dL_law_1130 : decode cL_law 1130 = .ok (.if_icmp .eq 5, 3) := by decide +kernel
theorem dL_law_1133 : decode cL_law 1133 = .ok (.iconst 0, 1) := by decide +kernel
theorem dL_law_1134 : decode cL_law 1134 = .ok (.ireturn, 1) := by decide +kernel
theorem dL_law_1135 : decode cL_law 1135 = .ok (.iload 6, 2) := by decide +kernel
theorem dL_law_1137 : decode cL_law 1137 = .ok (.ifCond .ne 15, 3) := by decide +kernel
theorem dL_law_1140 : decode cL_law 1140 = .ok (.aload_n 3, 1) := by decide +kernel
theorem dL_law_1141 : decode cL_law 1141 = .ok (.iconst 0, 1) := by decide +kernel
theorem dL_law_1142 : decode cL_law 1142 = .ok (.laload, 1) := by decide +kernel
theorem dL_law_1143 : decode cL_law 1143 = .ok (.iload 7, 2) := by decide +kernel
theorem dL_law_1145 : decode cL_law 1145 = .ok (.i2l, 1) := by decide +kernel
theorem dL_law_1146 : decode cL_law 1146 = .ok (.lcmp, 1) := by decide +kernel
theorem dL_law_1147 : decode cL_law 1147 = .ok (.ifCond .eq 5, 3) := by decide +kernel
theorem dL_law_1150 : decode cL_law 1150 = .ok (.iconst 0, 1) := by decide +kernel
theorem dL_law_1151 : decode cL_law 1151 = .ok (.ireturn, 1) := by decide +kernel
theorem dL_law_1152 : decode cL_law 1152 = .ok (.goto 695, 3) := by decide +kernel
theorem dL_law_1155 : decode cL_law 1155 = .ok (.aload_n 1, 1) := by decide +kernel
theorem dL_law_1156 : decode cL_law 1156 = .ok (.aload_n 0, 1) := by decide +kernel
theorem dL_law_1157 : decode cL_law 1157 = .ok (.iload 5, 2) := by decide +kernel
theorem dL_law_1159 : decode cL_law 1159 = .ok (.iconst 1, 1) := by decide +kernel
theorem dL_law_1160 : decode cL_law 1160 = .ok (.iadd, 1) := by decide +kernel
theorem dL_law_1161 : decode cL_law 1161 = .ok (.iaload, 1) := by decide +kernel
theorem dL_law_1162 : decode cL_law 1162 = .ok (.aload_n 0, 1) := by decide +kernel
theorem dL_law_1163 : decode cL_law 1163 = .ok (.iload 5, 2) := by decide +kernel
theorem dL_law_1165 : decode cL_law 1165 = .ok (.iconst 2, 1) := by decide +kernel
theorem dL_law_1166 : decode cL_law 1166 = .ok (.iadd, 1) := by decide +kernel
theorem dL_law_1167 : decode cL_law 1167 = .ok (.iaload, 1) := by decide +kernel
theorem dL_law_1168 : decode cL_law 1168 = .ok (.aload_n 3, 1) := by decide +kernel
theorem dL_law_1169 : decode cL_law 1169 = .ok (.invokestatic 164, 3) := by decide +kernel
theorem dL_law_1172 : decode cL_law 1172 = .ok (.istore 6, 2) := by decide +kernel
theorem dL_law_1174 : decode cL_law 1174 = .ok (.aload_n 2, 1) := by decide +kernel
theorem dL_law_1175 : decode cL_law 1175 = .ok (.aload_n 0, 1) := by decide +kernel
theorem dL_law_1176 : decode cL_law 1176 = .ok (.iload 5, 2) := by decide +kernel
theorem dL_law_1178 : decode cL_law 1178 = .ok (.iconst 1, 1) := by decide +kernel
theorem dL_law_1179 : decode cL_law 1179 = .ok (.iadd, 1) := by decide +kernel
theorem dL_law_1180 : decode cL_law 1180 = .ok (.iaload, 1) := by decide +kernel
theorem dL_law_1181 : decode cL_law 1181 = .ok (.aload_n 0, 1) := by decide +kernel
theorem dL_law_1182 : decode cL_law 1182 = .ok (.iload 5, 2) := by decide +kernel
theorem dL_law_1184 : decode cL_law 1184 = .ok (.iconst 2, 1) := by decide +kernel
theorem dL_law_1185 : decode cL_law 1185 = .ok (.iadd, 1) := by decide +kernel
theorem dL_law_1186 : decode cL_law 1186 = .ok (.iaload, 1) := by decide +kernel
theorem dL_law_1187 : decode cL_law 1187 = .ok (.invokevirtual 166, 3) := by decide +kernel
theorem dL_law_1190 : decode cL_law 1190 = .ok (.istore 7, 2) := by decide +kernel
theorem dL_law_1192 : decode cL_law 1192 = .ok (.aload_n 2, 1) := by decide +kernel
theorem dL_law_1193 : decode cL_law 1193 = .ok (.invokevirtual 114, 3) := by decide +kernel
theorem dL_law_1196 : decode cL_law 1196 = .ok (.iload 6, 2) := by decide +kernel
theorem dL_law_1198 : decode cL_law 1198 = .ok (.if_icmp .eq 5, 3) := by decide +kernel
theorem dL_law_1201 : decode cL_law 1201 = .ok (.iconst 0, 1) := by decide +kernel
theorem dL_law_1202 : decode cL_law 1202 = .ok (.ireturn, 1) := by decide +kernel
theorem dL_law_1203 : decode cL_law 1203 = .ok (.iload 6, 2) := by decide +kernel
theorem dL_law_1205 : decode cL_law 1205 = .ok (.ifCond .ne 15, 3) := by decide +kernel
theorem dL_law_1208 : decode cL_law 1208 = .ok (.aload_n 3, 1) := by decide +kernel
theorem dL_law_1209 : decode cL_law 1209 = .ok (.iconst 0, 1) := by decide +kernel
theorem dL_law_1210 : decode cL_law 1210 = .ok (.laload, 1) := by decide +kernel
theorem dL_law_1211 : decode cL_law 1211 = .ok (.iload 7, 2) := by decide +kernel
theorem dL_law_1213 : decode cL_law 1213 = .ok (.i2l, 1) := by decide +kernel
theorem dL_law_1214 : decode cL_law 1214 = .ok (.lcmp, 1) := by decide +kernel
theorem dL_law_1215 : decode cL_law 1215 = .ok (.ifCond .eq 5, 3) := by decide +kernel
theorem dL_law_1218 : decode cL_law 1218 = .ok (.iconst 0, 1) := by decide +kernel
theorem dL_law_1219 : decode cL_law 1219 = .ok (.ireturn, 1) := by decide +kernel
theorem dL_law_1220 : decode cL_law 1220 = .ok (.goto 627, 3) := by decide +kernel
theorem dL_law_1223 : decode cL_law 1223 = .ok (.aload_n 1, 1) := by decide +kernel
theorem dL_law_1224 : decode cL_law 1224 = .ok (.aload_n 0, 1) := by decide +kernel
theorem dL_law_1225 : decode cL_law 1225 = .ok (.iload 5, 2) := by decide +kernel
theorem dL_law_1227 : decode cL_law 1227 = .ok (.iconst 1, 1) := by decide +kernel
theorem dL_law_1228 : decode cL_law 1228 = .ok (.iadd, 1) := by decide +kernel
theorem dL_law_1229 : decode cL_law 1229 = .ok (.iaload, 1) := by decide +kernel
theorem dL_law_1230 : decode cL_law 1230 = .ok (.aload_n 3, 1) := by decide +kernel
theorem dL_law_1231 : decode cL_law 1231 = .ok (.invokestatic 167, 3) := by decide +kernel
theorem dL_law_1234 : decode cL_law 1234 = .ok (.istore 6, 2) := by decide +kernel
theorem dL_law_1236 : decode cL_law 1236 = .ok (.aload_n 2, 1) := by decide +kernel
theorem dL_law_1237 : decode cL_law 1237 = .ok (.aload_n 0, 1) := by decide +kernel
theorem dL_law_1238 : decode cL_law 1238 = .ok (.iload 5, 2) := by decide +kernel
theorem dL_law_1240 : decode cL_law 1240 = .ok (.iconst 1, 1) := by decide +kernel
theorem dL_law_1241 : decode cL_law 1241 = .ok (.iadd, 1) := by decide +kernel
theorem dL_law_1242 : decode cL_law 1242 = .ok (.iaload, 1) := by decide +kernel
theorem dL_law_1243 : decode cL_law 1243 = .ok (.invokevirtual 169, 3) := by decide +kernel
theorem dL_law_1246 : decode cL_law 1246 = .ok (.istore 7, 2) := by decide +kernel
theorem dL_law_1248 : decode cL_law 1248 = .ok (.aload_n 2, 1) := by decide +kernel
theorem dL_law_1249 : decode cL_law 1249 = .ok (.invokevirtual 114, 3) := by decide +kernel
theorem dL_law_1252 : decode cL_law 1252 = .ok (.iload 6, 2) := by decide +kernel
theorem dL_law_1254 : decode cL_law 1254 = .ok (.if_icmp .eq 5, 3) := by decide +kernel
theorem dL_law_1257 : decode cL_law 1257 = .ok (.iconst 0, 1) := by decide +kernel
theorem dL_law_1258 : decode cL_law 1258 = .ok (.ireturn, 1) := by decide +kernel
theorem dL_law_1259 : decode cL_law 1259 = .ok (.iload 6, 2) := by decide +kernel
theorem dL_law_1261 : decode cL_law 1261 = .ok (.ifCond .ne 15, 3) := by decide +kernel
theorem dL_law_1264 : decode cL_law 1264 = .ok (.aload_n 3, 1) := by decide +kernel
theorem dL_law_1265 : decode cL_law 1265 = .ok (.iconst 0, 1) := by decide +kernel
theorem dL_law_1266 : decode cL_law 1266 = .ok (.laload, 1) := by decide +kernel
theorem dL_law_1267 : decode cL_law 1267 = .ok (.iload 7, 2) := by decide +kernel
theorem dL_law_1269 : decode cL_law 1269 = .ok (.i2l, 1) := by decide +kernel
theorem dL_law_1270 : decode cL_law 1270 = .ok (.lcmp, 1) := by decide +kernel
theorem dL_law_1271 : decode cL_law 1271 = .ok (.ifCond .eq 5, 3) := by decide +kernel
theorem dL_law_1274 : decode cL_law 1274 = .ok (.iconst 0, 1) := by decide +kernel
theorem dL_law_1275 : decode cL_law 1275 = .ok (.ireturn, 1) := by decide +kernel
theorem dL_law_1276 : decode cL_law 1276 = .ok (.goto 571, 3) := by decide +kernel
theorem dL_law_1279 : decode cL_law 1279 = .ok (.aload_n 1, 1) := by decide +kernel
theorem dL_law_1280 : decode cL_law 1280 = .ok (.aload_n 0, 1) := by decide +kernel
theorem dL_law_1281 : decode cL_law 1281 = .ok (.iload 5, 2) := by decide +kernel
theorem dL_law_1283 : decode cL_law 1283 = .ok (.iconst 1, 1) := by decide +kernel
theorem dL_law_1284 : decode cL_law 1284 = .ok (.iadd, 1) := by decide +kernel
theorem dL_law_1285 : decode cL_law 1285 = .ok (.iaload, 1) := by decide +kernel
theorem dL_law_1286 : decode cL_law 1286 = .ok (.aload_n 0, 1) := by decide +kernel
theorem dL_law_1287 : decode cL_law 1287 = .ok (.iload 5, 2) := by decide +kernel
theorem dL_law_1289 : decode cL_law 1289 = .ok (.iconst 2, 1) := by decide +kernel
theorem dL_law_1290 : decode cL_law 1290 = .ok (.iadd, 1) := by decide +kernel
theorem dL_law_1291 : decode cL_law 1291 = .ok (.iaload, 1) := by decide +kernel
theorem dL_law_1292 : decode cL_law 1292 = .ok (.aload_n 3, 1) := by decide +kernel
theorem dL_law_1293 : decode cL_law 1293 = .ok (.invokestatic 170, 3) := by decide +kernel
theorem dL_law_1296 : decode cL_law 1296 = .ok (.istore 6, 2) := by decide +kernel
theorem dL_law_1298 : decode cL_law 1298 = .ok (.aload_n 2, 1) := by decide +kernel
theorem dL_law_1299 : decode cL_law 1299 = .ok (.aload_n 0, 1) := by decide +kernel
theorem dL_law_1300 : decode cL_law 1300 = .ok (.iload 5, 2) := by decide +kernel
theorem dL_law_1302 : decode cL_law 1302 = .ok (.iconst 1, 1) := by decide +kernel
theorem dL_law_1303 : decode cL_law 1303 = .ok (.iadd, 1) := by decide +kernel
theorem dL_law_1304 : decode cL_law 1304 = .ok (.iaload, 1) := by decide +kernel
theorem dL_law_1305 : decode cL_law 1305 = .ok (.aload_n 0, 1) := by decide +kernel
theorem dL_law_1306 : decode cL_law 1306 = .ok (.iload 5, 2) := by decide +kernel
theorem dL_law_1308 : decode cL_law 1308 = .ok (.iconst 2, 1) := by decide +kernel
theorem dL_law_1309 : decode cL_law 1309 = .ok (.iadd, 1) := by decide +kernel
theorem dL_law_1310 : decode cL_law 1310 = .ok (.iaload, 1) := by decide +kernel
theorem dL_law_1311 : decode cL_law 1311 = .ok (.invokevirtual 172, 3) := by decide +kernel
theorem dL_law_1314 : decode cL_law 1314 = .ok (.istore 7, 2) := by decide +kernel
theorem dL_law_1316 : decode cL_law 1316 = .ok (.aload_n 2, 1) := by decide +kernel
theorem dL_law_1317 : decode cL_law 1317 = .ok (.invokevirtual 114, 3) := by decide +kernel
theorem dL_law_1320 : decode cL_law 1320 = .ok (.iload 6, 2) := by decide +kernel
theorem dL_law_1322 : decode cL_law 1322 = .ok (.if_icmp .eq 5, 3) := by decide +kernel
theorem dL_law_1325 : decode cL_law 1325 = .ok (.iconst 0, 1) := by decide +kernel
theorem dL_law_1326 : decode cL_law 1326 = .ok (.ireturn, 1) := by decide +kernel
theorem dL_law_1327 : decode cL_law 1327 = .ok (.iload 6, 2) := by decide +kernel
theorem dL_law_1329 : decode cL_law 1329 = .ok (.ifCond .ne 22, 3) := by decide +kernel
theorem dL_law_1332 : decode cL_law 1332 = .ok (.aload_n 3, 1) := by decide +kernel
theorem dL_law_1333 : decode cL_law 1333 = .ok (.iconst 0, 1) := by decide +kernel
theorem dL_law_1334 : decode cL_law 1334 = .ok (.laload, 1) := by decide +kernel
theorem dL_law_1335 : decode cL_law 1335 = .ok (.iload 7, 2) := by decide +kernel
theorem dL_law_1337 : decode cL_law 1337 = .ok (.ifCond .eq 7, 3) := by decide +kernel
theorem dL_law_1340 : decode cL_law 1340 = .ok (.lconst 1, 1) := by decide +kernel
theorem dL_law_1341 : decode cL_law 1341 = .ok (.goto 4, 3) := by decide +kernel
theorem dL_law_1344 : decode cL_law 1344 = .ok (.lconst 0, 1) := by decide +kernel
theorem dL_law_1345 : decode cL_law 1345 = .ok (.lcmp, 1) := by decide +kernel
theorem dL_law_1346 : decode cL_law 1346 = .ok (.ifCond .eq 5, 3) := by decide +kernel
theorem dL_law_1349 : decode cL_law 1349 = .ok (.iconst 0, 1) := by decide +kernel
theorem dL_law_1350 : decode cL_law 1350 = .ok (.ireturn, 1) := by decide +kernel
theorem dL_law_1351 : decode cL_law 1351 = .ok (.goto 496, 3) := by decide +kernel
theorem dL_law_1354 : decode cL_law 1354 = .ok (.aload_n 1, 1) := by decide +kernel
theorem dL_law_1355 : decode cL_law 1355 = .ok (.aload_n 0, 1) := by decide +kernel
theorem dL_law_1356 : decode cL_law 1356 = .ok (.iload 5, 2) := by decide +kernel
theorem dL_law_1358 : decode cL_law 1358 = .ok (.iconst 1, 1) := by decide +kernel
theorem dL_law_1359 : decode cL_law 1359 = .ok (.iadd, 1) := by decide +kernel
theorem dL_law_1360 : decode cL_law 1360 = .ok (.iaload, 1) := by decide +kernel
theorem dL_law_1361 : decode cL_law 1361 = .ok (.aload_n 3, 1) := by decide +kernel
theorem dL_law_1362 : decode cL_law 1362 = .ok (.invokestatic 173, 3) := by decide +kernel
theorem dL_law_1365 : decode cL_law 1365 = .ok (.istore 6, 2) := by decide +kernel
theorem dL_law_1367 : decode cL_law 1367 = .ok (.aload_n 2, 1) := by decide +kernel
theorem dL_law_1368 : decode cL_law 1368 = .ok (.aload_n 0, 1) := by decide +kernel
theorem dL_law_1369 : decode cL_law 1369 = .ok (.iload 5, 2) := by decide +kernel
theorem dL_law_1371 : decode cL_law 1371 = .ok (.iconst 1, 1) := by decide +kernel
theorem dL_law_1372 : decode cL_law 1372 = .ok (.iadd, 1) := by decide +kernel
theorem dL_law_1373 : decode cL_law 1373 = .ok (.iaload, 1) := by decide +kernel
theorem dL_law_1374 : decode cL_law 1374 = .ok (.invokevirtual 175, 3) := by decide +kernel
theorem dL_law_1377 : decode cL_law 1377 = .ok (.istore 7, 2) := by decide +kernel
theorem dL_law_1379 : decode cL_law 1379 = .ok (.aload_n 2, 1) := by decide +kernel
theorem dL_law_1380 : decode cL_law 1380 = .ok (.invokevirtual 114, 3) := by decide +kernel
theorem dL_law_1383 : decode cL_law 1383 = .ok (.iload 6, 2) := by decide +kernel
theorem dL_law_1385 : decode cL_law 1385 = .ok (.if_icmp .eq 5, 3) := by decide +kernel
theorem dL_law_1388 : decode cL_law 1388 = .ok (.iconst 0, 1) := by decide +kernel
theorem dL_law_1389 : decode cL_law 1389 = .ok (.ireturn, 1) := by decide +kernel
theorem dL_law_1390 : decode cL_law 1390 = .ok (.iload 6, 2) := by decide +kernel
theorem dL_law_1392 : decode cL_law 1392 = .ok (.ifCond .ne 15, 3) := by decide +kernel
theorem dL_law_1395 : decode cL_law 1395 = .ok (.aload_n 3, 1) := by decide +kernel
theorem dL_law_1396 : decode cL_law 1396 = .ok (.iconst 0, 1) := by decide +kernel
theorem dL_law_1397 : decode cL_law 1397 = .ok (.laload, 1) := by decide +kernel
theorem dL_law_1398 : decode cL_law 1398 = .ok (.iload 7, 2) := by decide +kernel
theorem dL_law_1400 : decode cL_law 1400 = .ok (.i2l, 1) := by decide +kernel
theorem dL_law_1401 : decode cL_law 1401 = .ok (.lcmp, 1) := by decide +kernel
theorem dL_law_1402 : decode cL_law 1402 = .ok (.ifCond .eq 5, 3) := by decide +kernel
theorem dL_law_1405 : decode cL_law 1405 = .ok (.iconst 0, 1) := by decide +kernel
theorem dL_law_1406 : decode cL_law 1406 = .ok (.ireturn, 1) := by decide +kernel
theorem dL_law_1407 : decode cL_law 1407 = .ok (.goto 440, 3) := by decide +kernel
theorem dL_law_1410 : decode cL_law 1410 = .ok (.aload_n 1, 1) := by decide +kernel
theorem dL_law_1411 : decode cL_law 1411 = .ok (.aload_n 0, 1) := by decide +kernel
theorem dL_law_1412 : decode cL_law 1412 = .ok (.iload 5, 2) := by decide +kernel
theorem dL_law_1414 : decode cL_law 1414 = .ok (.iconst 1, 1) := by decide +kernel
theorem dL_law_1415 : decode cL_law 1415 = .ok (.iadd, 1) := by decide +kernel
theorem dL_law_1416 : decode cL_law 1416 = .ok (.iaload, 1) := by decide +kernel
theorem dL_law_1417 : decode cL_law 1417 = .ok (.aload_n 3, 1) := by decide +kernel
theorem dL_law_1418 : decode cL_law 1418 = .ok (.invokestatic 176, 3) := by decide +kernel
theorem dL_law_1421 : decode cL_law 1421 = .ok (.istore 6, 2) := by decide +kernel
theorem dL_law_1423 : decode cL_law 1423 = .ok (.aload_n 2, 1) := by decide +kernel
theorem dL_law_1424 : decode cL_law 1424 = .ok (.aload_n 0, 1) := by decide +kernel
theorem dL_law_1425 : decode cL_law 1425 = .ok (.iload 5, 2) := by decide +kernel
theorem dL_law_1427 : decode cL_law 1427 = .ok (.iconst 1, 1) := by decide +kernel
theorem dL_law_1428 : decode cL_law 1428 = .ok (.iadd, 1) := by decide +kernel
theorem dL_law_1429 : decode cL_law 1429 = .ok (.iaload, 1) := by decide +kernel
theorem dL_law_1430 : decode cL_law 1430 = .ok (.invokevirtual 178, 3) := by decide +kernel
theorem dL_law_1433 : decode cL_law 1433 = .ok (.istore 7, 2) := by decide +kernel
theorem dL_law_1435 : decode cL_law 1435 = .ok (.aload_n 2, 1) := by decide +kernel
theorem dL_law_1436 : decode cL_law 1436 = .ok (.invokevirtual 114, 3) := by decide +kernel
theorem dL_law_1439 : decode cL_law 1439 = .ok (.iload 6, 2) := by decide +kernel
theorem dL_law_1441 : decode cL_law 1441 = .ok (.if_icmp .eq 5, 3) := by decide +kernel
theorem dL_law_1444 : decode cL_law 1444 = .ok (.iconst 0, 1) := by decide +kernel
theorem dL_law_1445 : decode cL_law 1445 = .ok (.ireturn, 1) := by decide +kernel
theorem dL_law_1446 : decode cL_law 1446 = .ok (.iload 6, 2) := by decide +kernel
theorem dL_law_1448 : decode cL_law 1448 = .ok (.ifCond .ne 15, 3) := by decide +kernel
theorem dL_law_1451 : decode cL_law 1451 = .ok (.aload_n 3, 1) := by decide +kernel
theorem dL_law_1452 : decode cL_law 1452 = .ok (.iconst 0, 1) := by decide +kernel
theorem dL_law_1453 : decode cL_law 1453 = .ok (.laload, 1) := by decide +kernel
theorem dL_law_1454 : decode cL_law 1454 = .ok (.iload 7, 2) := by decide +kernel
theorem dL_law_1456 : decode cL_law 1456 = .ok (.i2l, 1) := by decide +kernel
theorem dL_law_1457 : decode cL_law 1457 = .ok (.lcmp, 1) := by decide +kernel
theorem dL_law_1458 : decode cL_law 1458 = .ok (.ifCond .eq 5, 3) := by decide +kernel
theorem dL_law_1461 : decode cL_law 1461 = .ok (.iconst 0, 1) := by decide +kernel
theorem dL_law_1462 : decode cL_law 1462 = .ok (.ireturn, 1) := by decide +kernel
theorem dL_law_1463 : decode cL_law 1463 = .ok (.goto 384, 3) := by decide +kernel
theorem dL_law_1466 : decode cL_law 1466 = .ok (.aload_n 1, 1) := by decide +kernel
theorem dL_law_1467 : decode cL_law 1467 = .ok (.aload_n 0, 1) := by decide +kernel
theorem dL_law_1468 : decode cL_law 1468 = .ok (.iload 5, 2) := by decide +kernel
theorem dL_law_1470 : decode cL_law 1470 = .ok (.iconst 1, 1) := by decide +kernel
theorem dL_law_1471 : decode cL_law 1471 = .ok (.iadd, 1) := by decide +kernel
theorem dL_law_1472 : decode cL_law 1472 = .ok (.iaload, 1) := by decide +kernel
theorem dL_law_1473 : decode cL_law 1473 = .ok (.aload_n 3, 1) := by decide +kernel
theorem dL_law_1474 : decode cL_law 1474 = .ok (.invokestatic 179, 3) := by decide +kernel
theorem dL_law_1477 : decode cL_law 1477 = .ok (.istore 6, 2) := by decide +kernel
theorem dL_law_1479 : decode cL_law 1479 = .ok (.aload_n 2, 1) := by decide +kernel
theorem dL_law_1480 : decode cL_law 1480 = .ok (.aload_n 0, 1) := by decide +kernel
theorem dL_law_1481 : decode cL_law 1481 = .ok (.iload 5, 2) := by decide +kernel
theorem dL_law_1483 : decode cL_law 1483 = .ok (.iconst 1, 1) := by decide +kernel
theorem dL_law_1484 : decode cL_law 1484 = .ok (.iadd, 1) := by decide +kernel
theorem dL_law_1485 : decode cL_law 1485 = .ok (.iaload, 1) := by decide +kernel
theorem dL_law_1486 : decode cL_law 1486 = .ok (.invokevirtual 181, 3) := by decide +kernel
theorem dL_law_1489 : decode cL_law 1489 = .ok (.istore 7, 2) := by decide +kernel
theorem dL_law_1491 : decode cL_law 1491 = .ok (.aload_n 2, 1) := by decide +kernel
theorem dL_law_1492 : decode cL_law 1492 = .ok (.invokevirtual 114, 3) := by decide +kernel
theorem dL_law_1495 : decode cL_law 1495 = .ok (.iload 6, 2) := by decide +kernel
theorem dL_law_1497 : decode cL_law 1497 = .ok (.if_icmp .eq 5, 3) := by decide +kernel
theorem dL_law_1500 : decode cL_law 1500 = .ok (.iconst 0, 1) := by decide +kernel
theorem dL_law_1501 : decode cL_law 1501 = .ok (.ireturn, 1) := by decide +kernel
theorem dL_law_1502 : decode cL_law 1502 = .ok (.iload 6, 2) := by decide +kernel
theorem dL_law_1504 : decode cL_law 1504 = .ok (.ifCond .ne 15, 3) := by decide +kernel
theorem dL_law_1507 : decode cL_law 1507 = .ok (.aload_n 3, 1) := by decide +kernel
theorem dL_law_1508 : decode cL_law 1508 = .ok (.iconst 0, 1) := by decide +kernel
theorem dL_law_1509 : decode cL_law 1509 = .ok (.laload, 1) := by decide +kernel
theorem dL_law_1510 : decode cL_law 1510 = .ok (.iload 7, 2) := by decide +kernel
theorem dL_law_1512 : decode cL_law 1512 = .ok (.i2l, 1) := by decide +kernel
theorem dL_law_1513 : decode cL_law 1513 = .ok (.lcmp, 1) := by decide +kernel
theorem dL_law_1514 : decode cL_law 1514 = .ok (.ifCond .eq 5, 3) := by decide +kernel
theorem dL_law_1517 : decode cL_law 1517 = .ok (.iconst 0, 1) := by decide +kernel
theorem dL_law_1518 : decode cL_law 1518 = .ok (.ireturn, 1) := by decide +kernel
theorem dL_law_1519 : decode cL_law 1519 = .ok (.goto 328, 3) := by decide +kernel
theorem dL_law_1522 : decode cL_law 1522 = .ok (.aload_n 1, 1) := by decide +kernel
theorem dL_law_1523 : decode cL_law 1523 = .ok (.aload_n 0, 1) := by decide +kernel
theorem dL_law_1524 : decode cL_law 1524 = .ok (.iload 5, 2) := by decide +kernel
theorem dL_law_1526 : decode cL_law 1526 = .ok (.iconst 1, 1) := by decide +kernel
theorem dL_law_1527 : decode cL_law 1527 = .ok (.iadd, 1) := by decide +kernel
theorem dL_law_1528 : decode cL_law 1528 = .ok (.iaload, 1) := by decide +kernel
theorem dL_law_1529 : decode cL_law 1529 = .ok (.aload_n 3, 1) := by decide +kernel
theorem dL_law_1530 : decode cL_law 1530 = .ok (.invokestatic 182, 3) := by decide +kernel
theorem dL_law_1533 : decode cL_law 1533 = .ok (.istore 6, 2) := by decide +kernel
theorem dL_law_1535 : decode cL_law 1535 = .ok (.aload_n 2, 1) := by decide +kernel
theorem dL_law_1536 : decode cL_law 1536 = .ok (.aload_n 0, 1) := by decide +kernel
theorem dL_law_1537 : decode cL_law 1537 = .ok (.iload 5, 2) := by decide +kernel
theorem dL_law_1539 : decode cL_law 1539 = .ok (.iconst 1, 1) := by decide +kernel
theorem dL_law_1540 : decode cL_law 1540 = .ok (.iadd, 1) := by decide +kernel
theorem dL_law_1541 : decode cL_law 1541 = .ok (.iaload, 1) := by decide +kernel
theorem dL_law_1542 : decode cL_law 1542 = .ok (.invokevirtual 184, 3) := by decide +kernel
theorem dL_law_1545 : decode cL_law 1545 = .ok (.istore 7, 2) := by decide +kernel
theorem dL_law_1547 : decode cL_law 1547 = .ok (.aload_n 2, 1) := by decide +kernel
theorem dL_law_1548 : decode cL_law 1548 = .ok (.invokevirtual 114, 3) := by decide +kernel
theorem dL_law_1551 : decode cL_law 1551 = .ok (.iload 6, 2) := by decide +kernel
theorem dL_law_1553 : decode cL_law 1553 = .ok (.if_icmp .eq 5, 3) := by decide +kernel
theorem dL_law_1556 : decode cL_law 1556 = .ok (.iconst 0, 1) := by decide +kernel
theorem dL_law_1557 : decode cL_law 1557 = .ok (.ireturn, 1) := by decide +kernel
theorem dL_law_1558 : decode cL_law 1558 = .ok (.iload 6, 2) := by decide +kernel
theorem dL_law_1560 : decode cL_law 1560 = .ok (.ifCond .ne 15, 3) := by decide +kernel
theorem dL_law_1563 : decode cL_law 1563 = .ok (.aload_n 3, 1) := by decide +kernel
theorem dL_law_1564 : decode cL_law 1564 = .ok (.iconst 0, 1) := by decide +kernel
theorem dL_law_1565 : decode cL_law 1565 = .ok (.laload, 1) := by decide +kernel
theorem dL_law_1566 : decode cL_law 1566 = .ok (.iload 7, 2) := by decide +kernel
theorem dL_law_1568 : decode cL_law 1568 = .ok (.i2l, 1) := by decide +kernel
theorem dL_law_1569 : decode cL_law 1569 = .ok (.lcmp, 1) := by decide +kernel
theorem dL_law_1570 : decode cL_law 1570 = .ok (.ifCond .eq 5, 3) := by decide +kernel
theorem dL_law_1573 : decode cL_law 1573 = .ok (.iconst 0, 1) := by decide +kernel
theorem dL_law_1574 : decode cL_law 1574 = .ok (.ireturn, 1) := by decide +kernel
theorem dL_law_1575 : decode cL_law 1575 = .ok (.goto 272, 3) := by decide +kernel
theorem dL_law_1578 : decode cL_law 1578 = .ok (.aload_n 1, 1) := by decide +kernel
theorem dL_law_1579 : decode cL_law 1579 = .ok (.aload_n 0, 1) := by decide +kernel
theorem dL_law_1580 : decode cL_law 1580 = .ok (.iload 5, 2) := by decide +kernel
theorem dL_law_1582 : decode cL_law 1582 = .ok (.iconst 1, 1) := by decide +kernel
theorem dL_law_1583 : decode cL_law 1583 = .ok (.iadd, 1) := by decide +kernel
theorem dL_law_1584 : decode cL_law 1584 = .ok (.iaload, 1) := by decide +kernel
theorem dL_law_1585 : decode cL_law 1585 = .ok (.aload_n 3, 1) := by decide +kernel
theorem dL_law_1586 : decode cL_law 1586 = .ok (.invokestatic 185, 3) := by decide +kernel
theorem dL_law_1589 : decode cL_law 1589 = .ok (.istore 6, 2) := by decide +kernel
theorem dL_law_1591 : decode cL_law 1591 = .ok (.aload_n 2, 1) := by decide +kernel
theorem dL_law_1592 : decode cL_law 1592 = .ok (.aload_n 0, 1) := by decide +kernel
theorem dL_law_1593 : decode cL_law 1593 = .ok (.iload 5, 2) := by decide +kernel
theorem dL_law_1595 : decode cL_law 1595 = .ok (.iconst 1, 1) := by decide +kernel
theorem dL_law_1596 : decode cL_law 1596 = .ok (.iadd, 1) := by decide +kernel
theorem dL_law_1597 : decode cL_law 1597 = .ok (.iaload, 1) := by decide +kernel
theorem dL_law_1598 : decode cL_law 1598 = .ok (.invokevirtual 187, 3) := by decide +kernel
theorem dL_law_1601 : decode cL_law 1601 = .ok (.istore 7, 2) := by decide +kernel
theorem dL_law_1603 : decode cL_law 1603 = .ok (.aload_n 2, 1) := by decide +kernel
theorem dL_law_1604 : decode cL_law 1604 = .ok (.invokevirtual 114, 3) := by decide +kernel
theorem dL_law_1607 : decode cL_law 1607 = .ok (.iload 6, 2) := by decide +kernel
theorem dL_law_1609 : decode cL_law 1609 = .ok (.if_icmp .eq 5, 3) := by decide +kernel
theorem dL_law_1612 : decode cL_law 1612 = .ok (.iconst 0, 1) := by decide +kernel
theorem dL_law_1613 : decode cL_law 1613 = .ok (.ireturn, 1) := by decide +kernel
theorem dL_law_1614 : decode cL_law 1614 = .ok (.iload 6, 2) := by decide +kernel
theorem dL_law_1616 : decode cL_law 1616 = .ok (.ifCond .ne 15, 3) := by decide +kernel
theorem dL_law_1619 : decode cL_law 1619 = .ok (.aload_n 3, 1) := by decide +kernel
theorem dL_law_1620 : decode cL_law 1620 = .ok (.iconst 0, 1) := by decide +kernel
theorem dL_law_1621 : decode cL_law 1621 = .ok (.laload, 1) := by decide +kernel
theorem dL_law_1622 : decode cL_law 1622 = .ok (.iload 7, 2) := by decide +kernel
theorem dL_law_1624 : decode cL_law 1624 = .ok (.i2l, 1) := by decide +kernel
theorem dL_law_1625 : decode cL_law 1625 = .ok (.lcmp, 1) := by decide +kernel
theorem dL_law_1626 : decode cL_law 1626 = .ok (.ifCond .eq 5, 3) := by decide +kernel
theorem dL_law_1629 : decode cL_law 1629 = .ok (.iconst 0, 1) := by decide +kernel
theorem dL_law_1630 : decode cL_law 1630 = .ok (.ireturn, 1) := by decide +kernel
theorem dL_law_1631 : decode cL_law 1631 = .ok (.goto 216, 3) := by decide +kernel
theorem dL_law_1634 : decode cL_law 1634 = .ok (.aload_n 1, 1) := by decide +kernel
theorem dL_law_1635 : decode cL_law 1635 = .ok (.aload_n 0, 1) := by decide +kernel
theorem dL_law_1636 : decode cL_law 1636 = .ok (.iload 5, 2) := by decide +kernel
theorem dL_law_1638 : decode cL_law 1638 = .ok (.iconst 1, 1) := by decide +kernel
theorem dL_law_1639 : decode cL_law 1639 = .ok (.iadd, 1) := by decide +kernel
theorem dL_law_1640 : decode cL_law 1640 = .ok (.iaload, 1) := by decide +kernel
theorem dL_law_1641 : decode cL_law 1641 = .ok (.aload_n 3, 1) := by decide +kernel
theorem dL_law_1642 : decode cL_law 1642 = .ok (.invokestatic 188, 3) := by decide +kernel
theorem dL_law_1645 : decode cL_law 1645 = .ok (.istore 6, 2) := by decide +kernel
theorem dL_law_1647 : decode cL_law 1647 = .ok (.aload_n 2, 1) := by decide +kernel
theorem dL_law_1648 : decode cL_law 1648 = .ok (.aload_n 0, 1) := by decide +kernel
theorem dL_law_1649 : decode cL_law 1649 = .ok (.iload 5, 2) := by decide +kernel
theorem dL_law_1651 : decode cL_law 1651 = .ok (.iconst 1, 1) := by decide +kernel
theorem dL_law_1652 : decode cL_law 1652 = .ok (.iadd, 1) := by decide +kernel
theorem dL_law_1653 : decode cL_law 1653 = .ok (.iaload, 1) := by decide +kernel
theorem dL_law_1654 : decode cL_law 1654 = .ok (.invokevirtual 190, 3) := by decide +kernel
theorem dL_law_1657 : decode cL_law 1657 = .ok (.istore 7, 2) := by decide +kernel
theorem dL_law_1659 : decode cL_law 1659 = .ok (.aload_n 2, 1) := by decide +kernel
theorem dL_law_1660 : decode cL_law 1660 = .ok (.invokevirtual 114, 3) := by decide +kernel
theorem dL_law_1663 : decode cL_law 1663 = .ok (.iload 6, 2) := by decide +kernel
theorem dL_law_1665 : decode cL_law 1665 = .ok (.if_icmp .eq 5, 3) := by decide +kernel
theorem dL_law_1668 : decode cL_law 1668 = .ok (.iconst 0, 1) := by decide +kernel
theorem dL_law_1669 : decode cL_law 1669 = .ok (.ireturn, 1) := by decide +kernel
theorem dL_law_1670 : decode cL_law 1670 = .ok (.iload 6, 2) := by decide +kernel
theorem dL_law_1672 : decode cL_law 1672 = .ok (.ifCond .ne 15, 3) := by decide +kernel
theorem dL_law_1675 : decode cL_law 1675 = .ok (.aload_n 3, 1) := by decide +kernel
theorem dL_law_1676 : decode cL_law 1676 = .ok (.iconst 0, 1) := by decide +kernel
theorem dL_law_1677 : decode cL_law 1677 = .ok (.laload, 1) := by decide +kernel
theorem dL_law_1678 : decode cL_law 1678 = .ok (.iload 7, 2) := by decide +kernel
theorem dL_law_1680 : decode cL_law 1680 = .ok (.i2l, 1) := by decide +kernel
theorem dL_law_1681 : decode cL_law 1681 = .ok (.lcmp, 1) := by decide +kernel
theorem dL_law_1682 : decode cL_law 1682 = .ok (.ifCond .eq 5, 3) := by decide +kernel
theorem dL_law_1685 : decode cL_law 1685 = .ok (.iconst 0, 1) := by decide +kernel
theorem dL_law_1686 : decode cL_law 1686 = .ok (.ireturn, 1) := by decide +kernel
theorem dL_law_1687 : decode cL_law 1687 = .ok (.goto 160, 3) := by decide +kernel
theorem dL_law_1690 : decode cL_law 1690 = .ok (.aload_n 1, 1) := by decide +kernel
theorem dL_law_1691 : decode cL_law 1691 = .ok (.invokevirtual 191, 3) := by decide +kernel
theorem dL_law_1694 : decode cL_law 1694 = .ok (.aload_n 2, 1) := by decide +kernel
theorem dL_law_1695 : decode cL_law 1695 = .ok (.invokevirtual 194, 3) := by decide +kernel
theorem dL_law_1698 : decode cL_law 1698 = .ok (.if_icmp .eq 149, 3) := by decide +kernel
theorem dL_law_1701 : decode cL_law 1701 = .ok (.iconst 0, 1) := by decide +kernel
theorem dL_law_1702 : decode cL_law 1702 = .ok (.ireturn, 1) := by decide +kernel
theorem dL_law_1703 : decode cL_law 1703 = .ok (.aload_n 1, 1) := by decide +kernel
theorem dL_law_1704 : decode cL_law 1704 = .ok (.invokevirtual 195, 3) := by decide +kernel
theorem dL_law_1707 : decode cL_law 1707 = .ok (.aload_n 2, 1) := by decide +kernel
theorem dL_law_1708 : decode cL_law 1708 = .ok (.invokevirtual 198, 3) := by decide +kernel
theorem dL_law_1711 : decode cL_law 1711 = .ok (.if_icmp .eq 136, 3) := by decide +kernel
theorem dL_law_1714 : decode cL_law 1714 = .ok (.iconst 0, 1) := by decide +kernel
theorem dL_law_1715 : decode cL_law 1715 = .ok (.ireturn, 1) := by decide +kernel
theorem dL_law_1716 : decode cL_law 1716 = .ok (.aload_n 1, 1) := by decide +kernel
theorem dL_law_1717 : decode cL_law 1717 = .ok (.aload 4, 2) := by decide +kernel
theorem dL_law_1719 : decode cL_law 1719 = .ok (.invokestatic 199, 3) := by decide +kernel
theorem dL_law_1722 : decode cL_law 1722 = .ok (.istore 6, 2) := by decide +kernel
theorem dL_law_1724 : decode cL_law 1724 = .ok (.aload_n 2, 1) := by decide +kernel
theorem dL_law_1725 : decode cL_law 1725 = .ok (.invokevirtual 202, 3) := by decide +kernel
theorem dL_law_1728 : decode cL_law 1728 = .ok (.fstore 7, 2) := by decide +kernel
theorem dL_law_1730 : decode cL_law 1730 = .ok (.aload_n 2, 1) := by decide +kernel
theorem dL_law_1731 : decode cL_law 1731 = .ok (.invokevirtual 114, 3) := by decide +kernel
theorem dL_law_1734 : decode cL_law 1734 = .ok (.iload 6, 2) := by decide +kernel
theorem dL_law_1736 : decode cL_law 1736 = .ok (.if_icmp .eq 5, 3) := by decide +kernel
theorem dL_law_1739 : decode cL_law 1739 = .ok (.iconst 0, 1) := by decide +kernel
theorem dL_law_1740 : decode cL_law 1740 = .ok (.ireturn, 1) := by decide +kernel
theorem dL_law_1741 : decode cL_law 1741 = .ok (.iload 6, 2) := by decide +kernel
theorem dL_law_1743 : decode cL_law 1743 = .ok (.ifCond .ne 36, 3) := by decide +kernel
theorem dL_law_1746 : decode cL_law 1746 = .ok (.aload 4, 2) := by decide +kernel
theorem dL_law_1748 : decode cL_law 1748 = .ok (.iconst 0, 1) := by decide +kernel
theorem dL_law_1749 : decode cL_law 1749 = .ok (.daload, 1) := by decide +kernel
theorem dL_law_1750 : decode cL_law 1750 = .ok (.fload 7, 2) := by decide +kernel
theorem dL_law_1752 : decode cL_law 1752 = .ok (.f2d, 1) := by decide +kernel
theorem dL_law_1753 : decode cL_law 1753 = .ok (.dcmp .l, 1) := by decide +kernel
theorem dL_law_1754 : decode cL_law 1754 = .ok (.ifCond .eq 25, 3) := by decide +kernel
theorem dL_law_1757 : decode cL_law 1757 = .ok (.aload 4, 2) := by decide +kernel
theorem dL_law_1759 : decode cL_law 1759 = .ok (.iconst 0, 1) := by decide +kernel
theorem dL_law_1760 : decode cL_law 1760 = .ok (.daload, 1) := by decide +kernel
theorem dL_law_1761 : decode cL_law 1761 = .ok (.aload 4, 2) := by decide +kernel
theorem dL_law_1763 : decode cL_law 1763 = .ok (.iconst 0, 1) := by decide +kernel
theorem dL_law_1764 : decode cL_law 1764 = .ok (.daload, 1) := by decide +kernel
theorem dL_law_1765 : decode cL_law 1765 = .ok (.dcmp .l, 1) := by decide +kernel
theorem dL_law_1766 : decode cL_law 1766 = .ok (.ifCond .eq 11, 3) := by decide +kernel
theorem dL_law_1769 : decode cL_law 1769 = .ok (.fload 7, 2) := by decide +kernel
theorem dL_law_1771 : decode cL_law 1771 = .ok (.fload 7, 2) := by decide +kernel
theorem dL_law_1773 : decode cL_law 1773 = .ok (.fcmp .l, 1) := by decide +kernel
theorem dL_law_1774 : decode cL_law 1774 = .ok (.ifCond .ne 5, 3) := by decide +kernel
theorem dL_law_1777 : decode cL_law 1777 = .ok (.iconst 0, 1) := by decide +kernel
theorem dL_law_1778 : decode cL_law 1778 = .ok (.ireturn, 1) := by decide +kernel
theorem dL_law_1779 : decode cL_law 1779 = .ok (.goto 68, 3) := by decide +kernel
theorem dL_law_1782 : decode cL_law 1782 = .ok (.aload_n 1, 1) := by decide +kernel
theorem dL_law_1783 : decode cL_law 1783 = .ok (.aload 4, 2) := by decide +kernel
theorem dL_law_1785 : decode cL_law 1785 = .ok (.invokestatic 203, 3) := by decide +kernel
theorem dL_law_1788 : decode cL_law 1788 = .ok (.istore 6, 2) := by decide +kernel
theorem dL_law_1790 : decode cL_law 1790 = .ok (.aload_n 2, 1) := by decide +kernel
theorem dL_law_1791 : decode cL_law 1791 = .ok (.invokevirtual 205, 3) := by decide +kernel
theorem dL_law_1794 : decode cL_law 1794 = .ok (.dstore 7, 2) := by decide +kernel
theorem dL_law_1796 : decode cL_law 1796 = .ok (.aload_n 2, 1) := by decide +kernel
theorem dL_law_1797 : decode cL_law 1797 = .ok (.invokevirtual 114, 3) := by decide +kernel
theorem dL_law_1800 : decode cL_law 1800 = .ok (.iload 6, 2) := by decide +kernel
theorem dL_law_1802 : decode cL_law 1802 = .ok (.if_icmp .eq 5, 3) := by decide +kernel
theorem dL_law_1805 : decode cL_law 1805 = .ok (.iconst 0, 1) := by decide +kernel
theorem dL_law_1806 : decode cL_law 1806 = .ok (.ireturn, 1) := by decide +kernel
theorem dL_law_1807 : decode cL_law 1807 = .ok (.iload 6, 2) := by decide +kernel
theorem dL_law_1809 : decode cL_law 1809 = .ok (.ifCond .ne 35, 3) := by decide +kernel
theorem dL_law_1812 : decode cL_law 1812 = .ok (.aload 4, 2) := by decide +kernel
theorem dL_law_1814 : decode cL_law 1814 = .ok (.iconst 0, 1) := by decide +kernel
theorem dL_law_1815 : decode cL_law 1815 = .ok (.daload, 1) := by decide +kernel
theorem dL_law_1816 : decode cL_law 1816 = .ok (.dload 7, 2) := by decide +kernel
theorem dL_law_1818 : decode cL_law 1818 = .ok (.dcmp .l, 1) := by decide +kernel
theorem dL_law_1819 : decode cL_law 1819 = .ok (.ifCond .eq 25, 3) := by decide +kernel
theorem dL_law_1822 : decode cL_law 1822 = .ok (.aload 4, 2) := by decide +kernel
theorem dL_law_1824 : decode cL_law 1824 = .ok (.iconst 0, 1) := by decide +kernel
theorem dL_law_1825 : decode cL_law 1825 = .ok (.daload, 1) := by decide +kernel
theorem dL_law_1826 : decode cL_law 1826 = .ok (.aload 4, 2) := by decide +kernel
theorem dL_law_1828 : decode cL_law 1828 = .ok (.iconst 0, 1) := by decide +kernel
theorem dL_law_1829 : decode cL_law 1829 = .ok (.daload, 1) := by decide +kernel
theorem dL_law_1830 : decode cL_law 1830 = .ok (.dcmp .l, 1) := by decide +kernel
theorem dL_law_1831 : decode cL_law 1831 = .ok (.ifCond .eq 11, 3) := by decide +kernel
theorem dL_law_1834 : decode cL_law 1834 = .ok (.dload 7, 2) := by decide +kernel
theorem dL_law_1836 : decode cL_law 1836 = .ok (.dload 7, 2) := by decide +kernel
theorem dL_law_1838 : decode cL_law 1838 = .ok (.dcmp .l, 1) := by decide +kernel
theorem dL_law_1839 : decode cL_law 1839 = .ok (.ifCond .ne 5, 3) := by decide +kernel
theorem dL_law_1842 : decode cL_law 1842 = .ok (.iconst 0, 1) := by decide +kernel
theorem dL_law_1843 : decode cL_law 1843 = .ok (.ireturn, 1) := by decide +kernel
theorem dL_law_1844 : decode cL_law 1844 = .ok (.goto 3, 3) := by decide +kernel
theorem dL_law_1847 : decode cL_law 1847 = .ok (.iinc 5 4, 3) := by decide +kernel
theorem dL_law_1850 : decode cL_law 1850 = .ok (.goto (-1822), 3) := by decide +kernel
theorem dL_law_1853 : decode cL_law 1853 = .ok (.iconst 1, 1) := by decide +kernel
theorem dL_law_1854 : decode cL_law 1854 = .ok (.ireturn, 1) := by decide +kernel
abbrev vwCl : List vw_C := [(RX0, TX0, 2), (RJx00060, TJx00060, 6), (RX0, TX0, 2), (RX1, TX1, 2), (RX2, TX2, 16), (RX3, TX3, 19)]
