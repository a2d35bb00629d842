/** The section "What it is": "An object is used for at most 512 calls after it has been made". */
final class WhatItIs extends Cases {
    void the512thCallIsAnsweredAsTheFirst() {
        due("addFolder(0, -1)\n", "hold(0) = 1\nrelease(0) = 0\n".repeat(255), "hold(0) = 1");
    }

    void theHeirsToldUpToThe512thCallAreKept() {
        StringBuilder rows = new StringBuilder("9 * addAccount()\n");
        for (int i = 0; i < 251; i++) {
            rows.append("setHeir(1, 2) = " + (i == 0 ? -1 : 3) + "\nsetHeir(1, 3) = 2\n");
        }
        due(rows.toString(), "setHeir(1, -1) = 3");
    }
}
