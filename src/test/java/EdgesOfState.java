import java.util.List;

/** The edges of part I without letters, of THE IMAGE and of count(): promises 1, 4 to 9, 46 to 48. */
final class EdgesOfState extends Edges {
    static void look() {
        beginning();
        numbers();
        kinds();
        good();
        uses();
        ends();
        image();
        counts();
    }

    private static void beginning() {
        edge(1, "No CAUSES, DAY 0.", () -> {
            JealousByCalendar x = new JealousByCalendar();
            due(x, "count(0)", 0);
            due(x, "count(1)", 0);
            due(x, "cause(0, 0)", -1);
            due(x, "use(0)", -1);
        });
        edge(1, "A new object", () -> {
            JealousByCalendar x = new JealousByCalendar();
            for (int what = 0; what <= 6; what++) due(x, "count(" + what + ")", 0);
            for (int what = 11; what <= 16; what++) due(x, "count(" + what + ")", 0);
            due(x, "one(0, 4)", 0);
            due(x, "one(1, 4)", 0);
        });
        edge(1, "An object is used for at most 512 calls after it has been made", () -> {
            JealousByCalendar x = new JealousByCalendar();
            for (int i = 1; i < 512; i++) x.one(2, 0);
            due(x, "count(11)", 511);
        });
        edge(9, "DAYS 0 .. 83 (DAY is 0 at first)", () -> {
            JealousByCalendar x = new JealousByCalendar();
            due(x, "count(1)", 0);
            for (int day = 1; day <= 83; day++) due(x, "end()", day);
            due(x, "count(1)", 83);
            due(x, "end()", -6);
            due(x, "count(1)", 83);
        });
        edge(11, "its WEEKDAY is DAY modulo 7", () -> {
            int[][] weekdays = {{0, 0}, {1, 1}, {6, 6}, {7, 0}, {8, 1}, {13, 6}, {14, 0}, {76, 6}, {77, 0}, {82, 5}, {83, 6}};
            for (int[] one : weekdays) {
                JealousByCalendar x = atDay(one[0]);
                for (int w = 0; w < 7; w++) {
                    does(x, "set(0, 0, " + w + ")");
                    due(x, "needed(0, " + one[0] + ")", w == one[1] ? 1 : 0);
                }
            }
        });
        edge(4, "TWO: 0 he, 1 she, each with a WEEKDAY (0 and 3 at first)", () -> {
            JealousByCalendar x = new JealousByCalendar();
            due(x, "one(0, 0)", 0);
            due(x, "one(1, 0)", 3);
            due(x, "one(-1, 0)", -1);
            due(x, "one(2, 0)", -1);
        });
        edge(4, "a PURSE of violets (0 .. 999; 50 at first)", () -> {
            JealousByCalendar x = new JealousByCalendar();
            due(x, "one(0, 1)", 50);
            due(x, "one(1, 1)", 50);
        });
        edge(4, "BORROWED, OWED (0 at first)", () -> {
            JealousByCalendar x = new JealousByCalendar();
            due(x, "one(0, 2)", 0);
            due(x, "one(1, 2)", 0);
            due(x, "one(0, 3)", 0);
            due(x, "one(1, 3)", 0);
        });
    }

    private static void numbers() {
        edge(6, "WEEKDAY (what 0), PURSE (1) of one becomes v: what it was.", () -> {
            JealousByCalendar x = new JealousByCalendar();
            due(x, "set(0, 0, 0)", 0);
            due(x, "set(0, 0, 6)", 0);
            due(x, "set(0, 0, 0)", 6);
            due(x, "set(1, 0, 0)", 3);
            due(x, "set(1, 1, 0)", 50);
            due(x, "set(1, 1, 999)", 0);
            due(x, "set(1, 1, 999)", 999);
            due(x, "one(0, 1)", 50);
            due(x, "one(1, 1)", 999);
            due(x, "one(1, 0)", 0);
        });
        edge(6, "-1; -2; -4; -6 (6; 999).", () -> {
            JealousByCalendar x = new JealousByCalendar();
            due(x, "set(0, 0, -1)", -4);
            due(x, "set(0, 0, 7)", -6);
            due(x, "set(0, 1, -1)", -4);
            due(x, "set(0, 1, 7)", 50);
            due(x, "set(0, 1, 1000)", -6);
            due(x, "set(0, 0, 999)", -6);
            due(x, "one(0, 0)", 0);
            due(x, "one(0, 1)", 7);
        });
        edge(6, "a PURSE of violets (0 .. 999", () -> {
            refused(() -> told("p0999;"), "set(0, 1, 1000)", -6);
            refused(() -> told("p0000;"), "set(0, 1, -1)", -4);
            // A purse that is full takes nothing more, an empty one pays nothing.
            JealousByCalendar x = told("p0999;p1000;c09000;u00;");
            due(x, "one(0, 1)", 999);
            due(x, "one(1, 1)", 0);
        });
        edge(7, "CAUSES 0 .. 11 as they come (12 at most)", () -> {
            JealousByCalendar x = new JealousByCalendar();
            for (int c = 0; c < 12; c++) {
                due(x, "cause(" + c + ", 1)", -1);
                due(x, "add(" + c % 6 + ", " + c % 10 + ", " + c % 2 + ", " + 7 * c + ")", c);
                due(x, "count(0)", c + 1);
            }
            due(x, "add(0, 0, 0, 0)", -6);
            due(x, "cause(12, 1)", -1);
            for (int c = 0; c < 12; c++) {
                due(x, "cause(" + c + ", 0)", c % 6);
                due(x, "cause(" + c + ", 1)", c % 10);
                due(x, "cause(" + c + ", 2)", c % 2);
                due(x, "cause(" + c + ", 3)", 7 * c);
            }
        });
        edge(7, "A CAUSE more: its number.", () -> {
            due(new JealousByCalendar(), "add(0, 0, 0, 0)", 0);
            due(told(causes(11, 0, 0, 0, 0, 1)), "add(0, 0, 0, 0)", 11);
            // One that is USED stays a CAUSE, and keeps its number and its room.
            due(told("c00000;u00;"), "add(0, 0, 0, 0)", 1);
            due(told(causes(12, 0, 0, 0, 0, 0) + "u11;"), "add(0, 0, 0, 0)", -6);
        });
        edge(7, "-6 (FIGURE 9, FOUND 83; 12 there are).", () -> {
            due(new JealousByCalendar(), "add(0, 9, 0, 0)", 0);
            refused(JealousByCalendar::new, "add(0, 10, 0, 0)", -6);
            due(new JealousByCalendar(), "add(0, 0, 0, 83)", 0);
            refused(JealousByCalendar::new, "add(0, 0, 0, 84)", -6);
            refused(() -> told(causes(12, 0, 0, 0, 0, 1)), "add(0, 0, 0, 0)", -6);
        });
        edge(7, "-1 FOR; -2 KIND; -4 either;", () -> {
            refused(JealousByCalendar::new, "add(6, 0, 2, 0)", -1);
            refused(JealousByCalendar::new, "add(6, -1, 0, 0)", -2);
            refused(JealousByCalendar::new, "add(0, -1, 0, 84)", -4);
            refused(JealousByCalendar::new, "add(0, 10, 0, -1)", -4);
            // With no room the others come first, too.
            refused(() -> told(causes(12, 0, 0, 0, 0, 1)), "add(0, 0, -1, 0)", -1);
            refused(() -> told(causes(12, 0, 0, 0, 0, 1)), "add(-1, 0, 0, 0)", -2);
            refused(() -> told(causes(12, 0, 0, 0, 0, 1)), "add(0, 0, 0, -1)", -4);
        });
    }

    private static void kinds() {
        edge(7, "of KINDS: 0 CAUSE; 1 GLOVE under CAUSE; 2 LAUGH under CAUSE; 3 LENT under CAUSE; 4 REAL under LAUGH; 5 NOTE under GLOVE", () -> {
            JealousByCalendar x = new JealousByCalendar();
            due(x, "add(-1, 0, 0, 0)", -2);
            for (int kind = 0; kind <= 5; kind++) {
                due(x, "add(" + kind + ", 0, 0, 0)", kind);
                due(x, "cause(" + kind + ", 0)", kind);
            }
            due(x, "add(6, 0, 0, 0)", -2);
        });
        edge(7, "a FIGURE (0 .. 9)", () -> {
            JealousByCalendar x = new JealousByCalendar();
            due(x, "add(0, -1, 0, 0)", -4);
            due(x, "add(0, 0, 0, 0)", 0);
            due(x, "add(0, 9, 0, 0)", 1);
            due(x, "add(0, 10, 0, 0)", -6);
            due(x, "cause(0, 1)", 0);
            due(x, "cause(1, 1)", 9);
        });
        edge(7, "FOR one of the TWO (who is to be jealous), FOUND on a DAY, USED or not", () -> {
            JealousByCalendar x = new JealousByCalendar();
            due(x, "add(0, 0, -1, 0)", -1);
            due(x, "add(0, 0, 0, 0)", 0);
            due(x, "add(0, 0, 1, 83)", 1);
            due(x, "add(0, 0, 2, 0)", -1);
            due(x, "add(0, 0, 0, -1)", -4);
            due(x, "add(0, 0, 0, 84)", -6);
            due(x, "cause(0, 2)", 0);
            due(x, "cause(1, 2)", 1);
            due(x, "cause(0, 3)", 0);
            due(x, "cause(1, 3)", 83);
            due(x, "cause(0, 4)", 0);
            does(x, "use(0)");
            due(x, "cause(0, 4)", 1);
            due(x, "cause(1, 4)", 0);
        });
        edge(5, "KEEPS (DAYS): CAUSE 5 plus FIGURE; GLOVE twice a CAUSE's; LAUGH half of a CAUSE's, cut; LENT 0; REAL a LAUGH's less 1; NOTE a GLOVE's plus 7.", () -> {
            int[][] keeps = {{5, 10, 2, 0, 1, 17}, {6, 12, 3, 0, 2, 19}, {13, 26, 6, 0, 5, 33}, {14, 28, 7, 0, 6, 35}};
            everyKind(5, keeps);
        });
        edge(5, "WEIGHT: CAUSE FIGURE plus 1; GLOVE a CAUSE's plus 2; LAUGH twice a CAUSE's; LENT half of a CAUSE's, cut; REAL a LAUGH's plus 9; NOTE a GLOVE's less 1.", () -> {
            int[][] weights = {{1, 3, 2, 0, 11, 2}, {2, 4, 4, 1, 13, 3}, {9, 11, 18, 4, 27, 10}, {10, 12, 20, 5, 29, 11}};
            everyKind(6, weights);
        });
        edge(5, "Of a CAUSE: KIND (what 0), FIGURE (1), FOR (2), FOUND (3), 1 USED (4), KEEPS (5), WEIGHT (6), 1 SOUR on DAY (7), 1 GOOD for DAY (8). -1; -2.", () -> {
            JealousByCalendar x = told("c59183;");
            long[] all = {5, 9, 1, 83, 0, 35, 11, 0, 0};
            for (int what = 0; what <= 8; what++) due(x, "cause(0, " + what + ")", all[what]);
            due(x, "cause(0, 9)", -2);
            due(x, "cause(0, -1)", -2);
            due(x, "cause(1, 0)", -1);
            due(x, "cause(-1, 0)", -1);
            due(x, "cause(1, 9)", -1);
        });
    }

    /** Of the FIGURES 0, 1, 8 and 9 of every kind. */
    private static void everyKind(int what, int[][] want) {
        int[] figures = {0, 1, 8, 9};
        for (int f = 0; f < 4; f++) {
            for (int kind = 0; kind <= 5; kind++) {
                due(told("c" + kind + figures[f] + "000;"), "cause(0, " + what + ")", want[f][kind]);
            }
        }
    }

    private static void good() {
        edge(5, "FOUND on it or ahead of it by no more than it KEEPS", () -> {
            // KIND, FIGURE, and the last DAY for which it is GOOD, FOUND on DAY 2.
            int[][] last = {{0, 0, 7}, {0, 9, 16}, {1, 0, 12}, {1, 9, 30}, {2, 0, 4}, {2, 1, 5}, {2, 9, 9}, {3, 0, 2}, {3, 9, 2},
                {4, 0, 3}, {4, 1, 4}, {4, 9, 8}, {5, 0, 19}, {5, 9, 37}};
            for (int[] one : last) {
                String cause = "c" + one[0] + one[1] + "002;";
                due(told(cause + "w01;d1;"), "cause(0, 8)", 0);
                due(told(cause + "w02;d2;"), "cause(0, 8)", 1);
                due(told(cause + "w0" + one[2] % 7 + ";" + days(one[2])), "cause(0, 8)", 1);
                due(told(cause + "w0" + (one[2] + 1) % 7 + ";" + days(one[2] + 1)), "cause(0, 8)", 0);
            }
            due(told("c00083;w06;" + days(83)), "cause(0, 8)", 1);
        });
        edge(5, "and the DAY's WEEKDAY is that of whom it is FOR (REAL: whatever it is)", () -> {
            for (int kind = 0; kind <= 5; kind++) {
                for (int w = 0; w < 7; w++) {
                    due(told("c" + kind + "9006;d6;w0" + w + ";"), "cause(0, 8)", w == 6 || kind == 4 ? 1 : 0);
                    due(told("c" + kind + "9107;d7;w0" + w + ";"), "cause(0, 8)", kind == 4 ? 1 : 0);
                    due(told("c" + kind + "9107;d7;w1" + w + ";"), "cause(0, 8)", w == 0 || kind == 4 ? 1 : 0);
                }
            }
        });
        edge(5, "SOUR on a DAY: not USED, and FOUND ahead of it by more than it KEEPS.", () -> {
            due(told("c00000;d5;"), "cause(0, 7)", 0);
            due(told("c00000;d6;"), "cause(0, 7)", 1);
            due(told("c30000;"), "cause(0, 7)", 0);
            due(told("c30000;d1;"), "cause(0, 7)", 1);
            due(told("c30001;"), "cause(0, 7)", 0);
            due(told("c59047;" + days(82)), "cause(0, 7)", 0);
            due(told("c59047;" + days(83)), "cause(0, 7)", 1);
            // It is not asked whose WEEKDAY it is; and one that is USED is not SOUR.
            due(told("c00100;d6;"), "cause(0, 7)", 1);
            due(told("c00000;u00;d6;"), "cause(0, 7)", 0);
        });
    }

    private static void uses() {
        edge(8, "One is used on DAY: FOR who has not been jealous on DAY, not USED, GOOD", () -> {
            due(told("c09000;"), "use(0)", 10);
            refused(() -> told("c09000;c09000;u00;"), "use(1)", -3);
            refused(() -> told("c49000;u00;d1;"), "use(0)", -3);
            refused(() -> told("c49001;"), "use(0)", -3);
            refused(() -> told("c09000;d1;"), "use(0)", -3);
            refused(() -> told("c00000;w06;d6;"), "use(0)", -3);
            // A DAY later he is not jealous any more; that she is does not hinder him.
            due(told("c09000;c49000;u00;d1;"), "use(1)", 29);
            due(told("c09000;c49100;u01;"), "use(0)", 10);
        });
        edge(8, "the other one's PURSE pays its WEIGHT to his (as many as there are and his can hold; the rest the other one has OWED more)", () -> {
            // Her purse, his purse, what is paid.
            int[][] purses = {{50, 50, 10}, {10, 0, 10}, {9, 0, 9}, {1, 0, 1}, {0, 0, 0}, {999, 989, 10}, {999, 990, 9},
                {999, 998, 1}, {999, 999, 0}, {4, 996, 3}, {3, 995, 3}, {0, 999, 0}};
            for (int[] one : purses) {
                JealousByCalendar x = told(String.format("c09000;p1%03d;p0%03d;", one[0], one[1]));
                due(x, "use(0)", one[2]);
                due(x, "one(1, 1)", one[0] - one[2]);
                due(x, "one(0, 1)", one[1] + one[2]);
                due(x, "one(1, 3)", 10 - one[2]);
                due(x, "one(0, 3)", 0);
            }
            // It is he who pays and owes for what is FOR her; what is OWED comes to what was OWED.
            JealousByCalendar x = told("p0000;c09103;c09110;d3;u00;d7;");
            due(x, "one(0, 3)", 10);
            due(x, "use(1)", 0);
            due(x, "one(0, 3)", 20);
            due(x, "one(1, 3)", 0);
        });
        edge(8, "It is used: what was paid. -1; -3 it can not be.", () -> {
            due(told("c49000;"), "use(0)", 29);
            // What weighs nothing is used all the same.
            JealousByCalendar x = told("c30000;");
            due(x, "use(0)", 0);
            due(x, "count(2)", 1);
            due(x, "one(0, 4)", 1);
            refused(() -> told("c09000;"), "use(1)", -1);
            refused(() -> told("c09000;"), "use(-1)", -1);
            refused(() -> told(causes(12, 0, 9, 0, 0, 0)), "use(12)", -1);
            due(told(causes(12, 0, 9, 0, 0, 0)), "use(11)", 10);
            refused(() -> told("c09000;u00;"), "use(0)", -3);
        });
        edge(4, "Of one of the TWO: WEEKDAY (what 0), PURSE (1), BORROWED (2), OWED (3), 1 he was jealous on DAY (4). -1; -2.", () -> {
            JealousByCalendar x = told("w05;c49000;p1007;d1;d1;");
            due(x, "one(0, 4)", 0);
            does(x, "use(0)");
            due(x, "one(0, 4)", 1);
            due(x, "one(1, 4)", 0);
            does(x, "end()");
            due(x, "one(0, 4)", 0);
            due(x, "one(0, 0)", 5);
            due(x, "one(0, 1)", 57);
            due(x, "one(0, 2)", 0);
            due(x, "one(1, 3)", 22);
            due(x, "one(0, 5)", -2);
            due(x, "one(0, -1)", -2);
            due(x, "one(2, 5)", -1);
        });
    }

    private static void ends() {
        edge(9, "A DAY ends: each of the TWO whose WEEKDAY it is and who was not jealous on it pays 3 violets of his PURSE (as many as there are), and has BORROWED one more", () -> {
            int[][] purses = {{50, 47}, {4, 1}, {3, 0}, {2, 0}, {1, 0}, {0, 0}, {999, 996}};
            for (int[] one : purses) {
                JealousByCalendar x = told(String.format("p0%03d;", one[0]));
                due(x, "end()", 1);
                due(x, "one(0, 1)", one[1]);
                due(x, "one(0, 2)", 1);
                due(x, "one(0, 3)", 0);
                due(x, "one(1, 1)", 50);
                due(x, "one(1, 2)", 0);
            }
            // Both, if it is the WEEKDAY of both.
            JealousByCalendar x = told("w10;d1;");
            due(x, "one(0, 2)", 1);
            due(x, "one(1, 2)", 1);
            due(x, "one(1, 1)", 47);
            // Not on the day ahead of it nor on that behind it.
            x = told("w01;d1;");
            due(x, "one(0, 2)", 0);
            does(x, "end()");
            due(x, "one(0, 2)", 1);
            does(x, "end()");
            due(x, "one(0, 2)", 1);
            // Jealous on it; jealous on another DAY does not count.
            due(told("c30000;u00;d1;"), "one(0, 2)", 0);
            due(told("c30000;u00;d8;"), "one(0, 2)", 1);
            due(told("c49006;d6;u00;d2;"), "one(0, 2)", 2);
        });
        edge(9, "DAY is 1 more. DAY 83 does not end.", () -> {
            JealousByCalendar x = told("w06;" + days(82));
            due(x, "end()", 83);
            due(x, "one(0, 2)", 11);
            due(x, "end()", -6);
            due(x, "one(0, 2)", 11);
            due(x, "count(1)", 83);
        });
        edge(9, "A DAY ends: DAY. -6 it is 83.", () -> {
            due(new JealousByCalendar(), "end()", 1);
            due(atDay(82), "end()", 83);
            refused(() -> atDay(83), "end()", -6);
            refused(() -> told("w06;c49083;" + days(83) + "u00;"), "end()", -6);
        });
    }

    private static void image() {
        edge(46, "THE IMAGE is taken: DAY.", () -> {
            due(new JealousByCalendar(), "image()", 0);
            due(atDay(83), "image()", 83);
            // The later one counts.
            JealousByCalendar x = new JealousByCalendar();
            does(x, "image()", "end()", "image()", "end()");
            due(x, "restore()", 1);
            due(x, "restore()", 1);
        });
        edge(47, "It is RESTORED: DAY. -3 there is none.", () -> {
            refused(JealousByCalendar::new, "restore()", -3);
            refused(() -> told("c09000;d5;"), "restore()", -3);
            JealousByCalendar x = new JealousByCalendar();
            does(x, "image()");
            due(x, "restore()", 0);
            does(x, "end()");
            due(x, "restore()", 0);
            due(x, "count(1)", 0);
        });
        edge(47, "THE IMAGE: all that there is of I, but it, letters, the ROW, REFUSALS.", () -> {
            JealousByCalendar x = told("w02;w14;p0012;p1003;c09102;c49001;c59100;d1;u01;");
            List<Long> was = look(x);
            does(x, "image()");
            does(x, "set(0, 0, 6)", "set(1, 0, 0)", "set(0, 1, 999)", "set(1, 1, 0)", "end()", "end()", "end()", "end()", "end()", "end()");
            does(x, "add(3, 3, 1, 83)", "use(2)", "end()", "feed(100)", "row(7)", "row(8)");
            due(x, "one(2, 0)", -1);
            due(x, "restore()", 1);
            due("letters stay", x.count(4), 1);
            due("the ROW stays", x.count(5), 2);
            due("REFUSALS stay", x.count(11), 1);
            due("nothing can be TAKEN BACK", x.back(), -3);
            does(x, "clear()");
            due("the letter stays", x.marriage(), -1001);
            due("all of I is RESTORED", look(x).equals(was) ? 1 : 0, 1);
            due("it stays", x.restore(), 1);
        });
        edge(46, "THE IMAGE: all that there is of I", () -> {
            // Of the first DAY, of no CAUSE, of twelve.
            JealousByCalendar x = new JealousByCalendar();
            does(x, "image()", "add(0, 0, 0, 0)", "end()");
            due(x, "restore()", 0);
            due(x, "count(0)", 0);
            due(x, "cause(0, 0)", -1);
            due(x, "one(0, 2)", 0);
            due(x, "add(5, 5, 1, 5)", 0);
            due(x, "cause(0, 0)", 5);
            // A new one is not USED, though one with its number was.
            x = new JealousByCalendar();
            does(x, "image()", "add(0, 9, 0, 0)", "use(0)", "restore()", "add(0, 9, 0, 0)");
            due(x, "cause(0, 4)", 0);
            due(x, "use(0)", 10);
            x = told(causes(12, 0, 9, 0, 0, 1) + "u00;");
            does(x, "image()", "end()", "end()", "end()", "end()", "end()", "end()", "end()", "use(7)");
            due(x, "restore()", 0);
            due(x, "count(0)", 12);
            due(x, "count(2)", 1);
            due(x, "one(0, 4)", 1);
            due(x, "cause(11, 3)", 11);
        });
    }

    private static void counts() {
        edge(48, "0 CAUSES, 1 DAY, 2 USED ones (bits), 3 all WEIGHTS not USED, 4 letters, 5 in the ROW, 6 what can be TAKEN BACK, 11 .. 16 REFUSALS -1 .. -6.", () -> {
            JealousByCalendar x = told(causes(12, 4, 9, 0, 0, 7));
            due(x, "count(0)", 12);
            due(x, "count(2)", 0);
            due(x, "count(3)", 12 * 29);
            for (int week = 0; week < 11; week++) {
                does(x, "use(" + week + ")");
                for (int d = 0; d < 7; d++) does(x, "end()");
            }
            does(x, "use(11)");
            due(x, "count(1)", 77);
            due(x, "count(2)", 4095);
            due(x, "count(3)", 0);
            due(x, "count(6)", 8);
        });
        edge(48, "11 .. 16 REFUSALS -1 .. -6", () -> {
            JealousByCalendar x = new JealousByCalendar();
            String[] calls = {"use(0)", "turns(2)", "restore()", "feed(-1)", "", "feed(256)"};
            for (int i = 0; i < 6; i++) {
                // No call answers -5.
                for (int k = 0; k <= i && !calls[i].isEmpty(); k++) ask(x, calls[i]);
            }
            long[] want = {1, 2, 3, 4, 0, 6};
            for (int i = 0; i < 6; i++) due(x, "count(" + (11 + i) + ")", want[i]);
        });
        edge(48, "-9 for another what.", () -> {
            JealousByCalendar x = new JealousByCalendar();
            int[] others = {LEAST, -9, -1, 7, 8, 9, 10, 17, 18, MOST};
            for (int what : others) due(x, "count(" + what + ")", -9);
            due("nothing is refused", refusals(x), 0);
        });
        edge(48, "4 letters, 5 in the ROW", () -> {
            JealousByCalendar x = new JealousByCalendar();
            for (int i = 0; i < 96; i++) does(x, "feed(0)");
            for (int i = 0; i < 12; i++) does(x, "row(0)");
            due(x, "count(4)", 96);
            due(x, "count(5)", 12);
            due(x, "feed(0)", -6);
            due(x, "row(0)", -6);
            due(x, "count(4)", 96);
            due(x, "count(5)", 12);
            due(x, "marriage()", -1000);
            due(x, "clear()", 12);
            due(x, "count(4)", 0);
            due(x, "count(5)", 0);
        });
    }
}
