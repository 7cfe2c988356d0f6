import java.util.List;

/** The edges of part III: what can be TAKEN BACK, what would be better, what could go: promises 10, 28 to 36. */
final class EdgesOfChanges extends Edges {
    private static final String HIS = causes(12, 3, 9, 0, 0, 7);

    static void look() {
        takenBack();
        leaveNone();
        gift();
        when();
        changed();
        alike();
        spare();
        over();
        streak();
        quarrel();
        swapped();
    }

    private static void takenBack() {
        edge(10, "Uses and ends of DAYS (by use(), end() alone) can be TAKEN BACK, the latest first, 8 at most (older ones no more;", () -> {
            JealousByCalendar x = new JealousByCalendar();
            for (int day = 1; day <= 8; day++) {
                does(x, "end()");
                due(x, "count(6)", day);
            }
            for (int day = 7; day >= 0; day--) due(x, "back()", day);
            due(x, "back()", -3);
            due(x, "count(1)", 0);
            x = new JealousByCalendar();
            for (int day = 1; day <= 9; day++) does(x, "end()");
            due(x, "count(6)", 8);
            for (int day = 8; day >= 1; day--) due(x, "back()", day);
            due(x, "back()", -3);
            due(x, "count(1)", 1);
            // A DAY and what is used on it, the latest first; then new ones.
            x = told("c09000;c09107;");
            for (int day = 0; day < 30; day++) does(x, "end()");
            for (int i = 0; i < 3; i++) does(x, "back()");
            due(x, "count(6)", 5);
            does(x, "end()", "end()", "end()", "end()", "end()");
            due(x, "count(6)", 8);
            for (int day = 31; day >= 24; day--) due(x, "back()", day);
            due(x, "back()", -3);
            // By letters they can not.
            x = told("c09000;u00;d1;");
            due(x, "count(6)", 0);
            due(x, "back()", -3);
        });
        edge(10, "all of I is as ahead of it.", () -> {
            JealousByCalendar x = told("p0004;p1007;c49000;w05;w10;");
            List<Long> first = look(x);
            does(x, "use(0)");
            List<Long> second = look(x);
            does(x, "end()");
            due(x, "one(1, 2)", 1);
            due(x, "back()", 0);
            due("as ahead of the end", look(x).equals(second) ? 1 : 0, 1);
            due(x, "one(0, 4)", 1);
            due(x, "back()", 0);
            due("as ahead of the use", look(x).equals(first) ? 1 : 0, 1);
            due(x, "use(0)", 7);
            // The last of twelve CAUSES; back from the last DAY.
            x = told(causes(12, 0, 9, 0, 75, 0) + days(77));
            does(x, "use(11)", "end()", "end()", "end()", "end()", "end()", "end()");
            due(x, "end()", -6);
            for (int day = 82; day >= 77; day--) due(x, "back()", day);
            due(x, "count(2)", 2048);
            due(x, "back()", 77);
            due(x, "count(2)", 0);
            due(x, "cause(11, 4)", 0);
        });
        edge(10, "TAKEN BACK: DAY. -3 none.", () -> {
            refused(JealousByCalendar::new, "back()", -3);
            JealousByCalendar x = atDay(82);
            does(x, "end()");
            due(x, "back()", 82);
            due(x, "end()", 83);
            refused(() -> told("c09000;u00;"), "back()", -3);
        });
    }

    private static void leaveNone() {
        edge(10, "all else of I that is not refused, and restore(), leave none, also if nothing is different", () -> {
            String[] calls = {"set(0, 0, 0)", "set(1, 0, 3)", "set(1, 1, 50)", "set(0, 0, 6)", "set(0, 1, 0)", "add(0, 0, 0, 0)", "restore()"};
            for (String call : calls) {
                JealousByCalendar x = ended();
                does(x, call);
                due("behind " + call, x.count(6), 0);
                due(x, "back()", -3);
            }
            String[] texts = {"d0;", "w00;", "p0047;", "d1;", "c00000;"};
            for (String text : texts) {
                JealousByCalendar x = ended();
                due(text, tell(x, text), 1);
                due("behind " + text, x.count(6), 0);
                due(x, "back()", -3);
            }
        });
        edge(10, "all else of I that is not refused", () -> {
            String[] calls = {"set(0, 0, 7)", "set(0, 0, -1)", "set(2, 0, 0)", "set(0, 2, 0)", "set(0, 1, 1000)", "add(0, 10, 0, 0)",
                "add(6, 0, 0, 0)", "add(0, 0, 2, 0)", "add(0, 0, 0, 84)", "add(0, 0, -1, -1)", "use(12)", "use(-1)", "use(0)"};
            for (String call : calls) {
                JealousByCalendar x = ended();
                ask(x, call);
                due("refused: " + call, refusals(x), 1);
                due("behind " + call, x.count(6), 2);
                due(x, "back()", 1);
            }
            JealousByCalendar x = atDay(81);
            does(x, "end()", "end()");
            due(x, "end()", -6);
            due(x, "restore()", -3);
            due(x, "count(6)", 2);
            due(x, "back()", 82);
        });
        edge(10, "letters, and a MARRIAGE with a FAULT, leave them as they are", () -> {
            String[] texts = {"", "x", "d", "w07;", "d1;d9;u00;"};
            for (String text : texts) {
                JealousByCalendar x = ended();
                due(text, tell(x, text) < 0 ? 1 : 0, 1);
                due("behind " + text, x.count(6), 2);
                due(x, "back()", 1);
                due(x, "back()", 0);
            }
            JealousByCalendar x = ended();
            does(x, "feed(100)", "feed(255)");
            ask(x, "feed(256)");
            due(x, "count(6)", 2);
            due(x, "back()", 1);
        });
        edge(10, "Uses and ends of DAYS (by use(), end() alone)", () -> {
            // What is not of I, and what is only asked, leaves them, too.
            String[] calls = {"row(0)", "clear()", "judge(0)", "image()", "one(0, 1)", "count(6)", "needed(0, 83)", "run(0, 83, 0)",
                "gift(0, 9, 83)", "lots(2, 1)", "laid(0, 83, 0)", "law(0)"};
            for (String call : calls) {
                JealousByCalendar x = ended();
                does(x, call);
                due("behind " + call, x.count(6), 2);
                due(x, "back()", 1);
                due(x, "back()", 0);
            }
        });
    }

    /** Two DAYS ended by end(), an IMAGE of DAY 2, one CAUSE that is not GOOD. */
    private static JealousByCalendar ended() {
        JealousByCalendar x = told("c39000;");
        does(x, "end()", "end()", "image()");
        return x;
    }

    private static void gift() {
        edge(28, "A GIFT: of KINDS (FIGURE f) the one that, FOUND on DAY FOR one, makes LAID to n most, more than it is; of several the least; -9 (12 CAUSES, too).", () -> {
            // On DAY itself REAL is the heaviest; seven DAYS on it has turned SOUR, LAUGH of FIGURE 9 has not.
            due(new JealousByCalendar(), "gift(0, 0, 0)", 4);
            due(new JealousByCalendar(), "gift(0, 9, 83)", 4);
            due(told("d1;"), "gift(0, 9, 6)", -9);
            due(told("d1;"), "gift(0, 9, 7)", 4);
            due(told("c49000;"), "gift(0, 9, 7)", 2);
            due(told("c49000;u00;"), "gift(0, 9, 7)", 2);
            // Of GLOVE and LAUGH of FIGURE 1, both of 4, the least; FIGURE 2 makes LAUGH more.
            due(told("d4;"), "gift(0, 1, 7)", 1);
            due(told("d4;"), "gift(0, 2, 7)", 2);
            // No more than it is: nothing NEEDED, a DAY that has as much already.
            due(new JealousByCalendar(), "gift(1, 9, 2)", -9);
            due(new JealousByCalendar(), "gift(1, 9, 3)", 4);
            due(told("c49000;"), "gift(0, 9, 0)", -9);
            due(told("c48000;"), "gift(0, 9, 0)", 4);
            due(told("c49000;u00;"), "gift(0, 9, 0)", -9);
            due(atDay(83), "gift(0, 9, 83)", -9);
            due(told("w06;" + days(83)), "gift(0, 9, 83)", 4);
            // For DAY 7 GLOVE or NOTE alone, and GLOVE is the heavier; for a DAY eleven DAYS on NOTE alone.
            due(told("c49000;"), "gift(0, 0, 7)", 1);
            due(told("w04;c49000;u00;"), "gift(0, 0, 10)", 1);
            due(told("c49003;d3;u00;"), "gift(1, 0, 13)", 4);
            due(told("c49103;d3;u00;"), "gift(1, 0, 13)", 1);
            due(told("d2;w16;c49106;"), "gift(1, 0, 13)", 5);
            // 11 is more than 10 on a DAY that has one already, and less than 12.
            due(told("c09000;c09000;c09000;"), "gift(0, 0, 14)", 4);
            due(told("c19000;c19000;c19000;"), "gift(0, 0, 14)", -9);
            // Twelve: there is no room.
            due(told(causes(11, 3, 9, 0, 1, 0)), "gift(0, 9, 0)", 4);
            due(told(causes(12, 3, 9, 0, 1, 0)), "gift(0, 9, 0)", -9);
        });
        edge(28, "A GIFT; -9. -1; -4 either; -6 either (9).", () -> {
            refused(JealousByCalendar::new, "gift(2, 0, 0)", -1);
            refused(JealousByCalendar::new, "gift(0, -1, 0)", -4);
            refused(JealousByCalendar::new, "gift(0, 0, -1)", -4);
            refused(JealousByCalendar::new, "gift(0, 10, 0)", -6);
            refused(JealousByCalendar::new, "gift(0, 0, 84)", -6);
            refused(JealousByCalendar::new, "gift(0, 10, -1)", -4);
            refused(JealousByCalendar::new, "gift(0, -1, 84)", -4);
            refused(() -> told(causes(12, 3, 9, 0, 1, 0)), "gift(0, 10, 0)", -6);
            taken(new JealousByCalendar(), "gift(1, 0, 0)");
            taken(new JealousByCalendar(), "gift(0, 9, 83)");
        });
    }

    private static void when() {
        edge(29, "WHEN: the DAY (DAY .. n) on which a CAUSE of a KIND and FIGURE f would best be FOUND FOR one, likewise; -9.", () -> {
            // DAY itself and n itself; of several the least.
            due(new JealousByCalendar(), "when(0, 3, 0, 0)", 0);
            due(new JealousByCalendar(), "when(0, 3, 9, 83)", 0);
            due(told("d1;"), "when(0, 3, 9, 6)", -9);
            due(told("d1;"), "when(0, 3, 9, 7)", 7);
            due(told("d1;"), "when(0, 0, 0, 7)", 2);
            due(told("d1;"), "when(0, 0, 1, 7)", 1);
            due(new JealousByCalendar(), "when(1, 3, 9, 83)", 3);
            due(new JealousByCalendar(), "when(1, 0, 0, 2)", -9);
            due(told("w06;" + days(80)), "when(0, 3, 9, 83)", 83);
            due(told("w06;" + days(80)), "when(0, 0, 0, 83)", 80);
            due(told("w06;" + days(80)), "when(0, 3, 9, 82)", -9);
            due(told("w06;" + days(83)), "when(0, 3, 9, 83)", 83);
            due(atDay(83), "when(0, 3, 9, 83)", -9);
            // More than it is: DAY 0 has as much, DAY 7 has less.
            due(told("c39000;c38007;"), "when(0, 3, 9, 7)", 7);
            due(told("c39000;"), "when(0, 3, 9, 0)", -9);
            due(told("c38000;"), "when(0, 3, 9, 0)", 0);
            due(told("c30000;u00;"), "when(0, 3, 9, 6)", -9);
            // Every DAY has one: none is better.
            due(told(causes(11, 3, 9, 0, 0, 7) + "d1;"), "when(0, 3, 9, 76)", -9);
            due(told(causes(11, 3, 9, 0, 0, 7) + "d1;"), "when(0, 3, 9, 77)", 77);
            // Twelve: there is no room.
            due(told(causes(12, 3, 9, 1, 1, 0)), "when(0, 3, 9, 83)", -9);
        });
        edge(29, "WHEN; -9. -1; -2; -4 either; -6 either.", () -> {
            refused(JealousByCalendar::new, "when(-1, 0, 0, 0)", -1);
            refused(JealousByCalendar::new, "when(2, 6, 0, 0)", -1);
            refused(JealousByCalendar::new, "when(0, 6, 0, 0)", -2);
            refused(JealousByCalendar::new, "when(0, -1, 0, -1)", -2);
            refused(JealousByCalendar::new, "when(0, 0, -1, 0)", -4);
            refused(JealousByCalendar::new, "when(0, 0, 0, -1)", -4);
            refused(JealousByCalendar::new, "when(0, 0, 10, 0)", -6);
            refused(JealousByCalendar::new, "when(0, 0, 0, 84)", -6);
            refused(JealousByCalendar::new, "when(0, 0, 10, -1)", -4);
            refused(JealousByCalendar::new, "when(0, 0, -1, 84)", -4);
            refused(() -> told(causes(12, 3, 9, 0, 1, 0)), "when(0, 6, 0, 0)", -2);
            taken(new JealousByCalendar(), "when(1, 5, 9, 83)");
        });
    }

    private static void changed() {
        edge(30, "CHANGED HANDS: the CAUSE not USED that, were it FOR the other one, makes LAID of both together most, more than now; of several the least; -9.", () -> {
            due(new JealousByCalendar(), "changed(83)", -9);
            due(told("c39000;"), "changed(83)", -9);
            due(told("c39100;"), "changed(83)", 0);
            due(told("c39100;"), "changed(0)", 0);
            due(told("c39003;"), "changed(2)", -9);
            due(told("c39003;"), "changed(3)", 0);
            due(told("c38100;c39107;"), "changed(83)", 1);
            due(told("c39100;c39107;"), "changed(83)", 0);
            due(told(causes(11, 3, 9, 0, 1, 0) + "c39100;"), "changed(83)", 11);
            // As much as now is not more; a USED one is none.
            due(told("c49000;"), "changed(6)", -9);
            due(told("c49003;d3;"), "changed(6)", 0);
            due(told("c19000;u00;"), "changed(83)", -9);
            due(told("w06;w15;c39183;" + days(83)), "changed(83)", 0);
        });
        edge(30, "CHANGED HANDS; -9. -4; -6.", () -> {
            refused(JealousByCalendar::new, "changed(-1)", -4);
            refused(JealousByCalendar::new, "changed(84)", -6);
        });
    }

    private static void alike() {
        edge(31, "ALIKE: CAUSES not USED to two heaps (number 0 of these in the first) so that WEIGHTS are as even as can be: how far they are apart; the first heap (bits, of several the least; 0 none).", () -> {
            // The text, how far, the first heap.
            String[] texts = {"", "c09000;", "c30000;", "c09000;c09000;", "c09000;c09100;", "c08000;c09000;c00000;",
                "c09000;c08000;c00000;", "c30000;c09000;", "c00000;c00000;c00000;c00000;", "c00000;c00000;c00000;",
                "c09000;u00;", "c09000;c04000;c04000;u00;", "c09000;c08000;c07000;u00;", "c09000;c00000;c00000;c30000;"};
            int[] apart = {0, 10, 0, 0, 0, 0, 0, 10, 0, 1, 0, 0, 1, 8};
            int[] heap = {0, 1, 1, 1, 1, 5, 1, 1, 3, 1, 0, 2, 2, 1};
            for (int i = 0; i < texts.length; i++) {
                due(told(texts[i]), "alike(0)", apart[i]);
                due(told(texts[i]), "alike(1)", heap[i]);
            }
            due(told(causes(12, 0, 9, 0, 0, 0)), "alike(0)", 0);
            due(told(causes(12, 0, 9, 0, 0, 0)), "alike(1)", 63);
            due(told(causes(11, 4, 9, 0, 0, 0)), "alike(0)", 29);
            due(told(causes(11, 4, 9, 0, 0, 0)), "alike(1)", 31);
            // One of 10 against eleven of 1: nine more go with number 0.
            due(told(causes(11, 0, 0, 0, 0, 0) + "c09000;"), "alike(0)", 1);
            due(told(causes(11, 0, 0, 0, 0, 0) + "c09000;"), "alike(1)", 1023);
        });
        edge(31, "ALIKE: how far (what 0), the heap (1). -2.", () -> {
            refused(JealousByCalendar::new, "alike(-1)", -2);
            refused(JealousByCalendar::new, "alike(2)", -2);
        });
    }

    private static void spare() {
        edge(32, "SPARE: the most CAUSES not USED (bits) that can be thrown away, LAID of both staying as it is: of several the least bits; how many.", () -> {
            // The text, the bits, how many.
            String[] texts = {"", "c39000;", "c30000;", "c39001;", "c39000;c39000;", "c39000;c38000;", "c38000;c39000;", "c39103;c39103;c39000;",
                "c39000;c39000;c39000;", "c09000;c39000;c39007;", "c39000;u00;", "c39000;c19000;u00;", "c09000;c09000;c09000;c09000;"};
            int[] bits = {0, 0, 0, 1, 1, 2, 1, 1, 3, 0, 0, 0, 1};
            for (int i = 0; i < texts.length; i++) {
                due(told(texts[i]), "spare(83, 0)", bits[i]);
                due(told(texts[i]), "spare(83, 1)", Integer.bitCount(bits[i]));
            }
            due(told(HIS), "spare(83, 1)", 0);
            due(told(HIS), "spare(76, 0)", 2048);
            due(told(HIS), "spare(0, 0)", 4094);
            due(told(causes(12, 3, 9, 0, 1, 0)), "spare(83, 0)", 4095);
            due(told(causes(12, 3, 9, 1, 1, 0)), "spare(83, 1)", 12);
            due(told(causes(12, 3, 9, 0, 0, 0)), "spare(83, 0)", 2047);
        });
        edge(32, "SPARE: bits (what 0), how many (1). -4; -6; -2.", () -> {
            refused(JealousByCalendar::new, "spare(-1, 2)", -4);
            refused(JealousByCalendar::new, "spare(84, 2)", -6);
            refused(JealousByCalendar::new, "spare(0, 2)", -2);
            refused(JealousByCalendar::new, "spare(83, -1)", -2);
        });
    }

    private static void over() {
        edge(33, "OVER: the first DAY (DAY .. 83) from which on no CAUSE not USED is GOOD any more for any DAY; the last DAY (DAY .. 83) for which a CAUSE that is not USED is GOOD; -9.", () -> {
            // The text, the first, the last.
            String[] texts = {"", "d5;", "c39000;", "c39001;", "c39001;w01;", "c09000;", "c09000;d9;d5;", "c09000;d9;d6;", "c49080;", "c49076;",
                "c39083;", "c39083;w06;", "c09000;u00;", "c39000;c39107;w10;", "c39000;c39103;", "c59047;", "c59047;w05;", "c59048;w06;", "c30000;d1;"};
            int[] first = {0, 5, 1, 0, 2, 15, 15, 15, 84, 83, 0, 84, 0, 8, 4, 78, 83, 84, 1};
            int[] last = {-9, -9, 0, -9, 1, 14, 14, -9, 83, 82, -9, 83, -9, 7, 3, 77, 82, 83, -9};
            for (int i = 0; i < texts.length; i++) {
                due(told(texts[i]), "over(0)", first[i]);
                due(told(texts[i]), "over(1)", last[i]);
            }
            due(atDay(83), "over(0)", 83);
            due(told("w06;c09083;" + days(83)), "over(0)", 84);
            due(told("w06;c09083;" + days(83)), "over(1)", 83);
            due(told("w06;c09083;" + days(83) + "u00;"), "over(0)", 83);
        });
        edge(33, "OVER: the first DAY (what 0; 84 none till 83), the last (1; -9). -2.", () -> {
            due(told("c49083;"), "over(0)", 84);
            due(told("c49083;"), "over(1)", 83);
            refused(JealousByCalendar::new, "over(-1)", -2);
            refused(JealousByCalendar::new, "over(2)", -2);
        });
    }

    private static void streak() {
        edge(34, "STREAK of one, BY HAND to n: the most NEEDED DAYS one behind the other that have a CAUSE; that do not.", () -> {
            // The text, n, with, without.
            String[] texts = {"", "", "", "c39000;", "c39000;c39007;", "c39007;", "c39000;c39014;c39021;c39049;", HIS, HIS + "d1;",
                "c39000;c39077;", "c39070;c39077;", "c39035;c39042;"};
            int[][] want = {{0, 0, 1}, {83, 0, 12}, {76, 0, 11}, {83, 1, 11}, {83, 2, 10}, {83, 1, 10}, {83, 2, 4}, {83, 12, 0}, {83, 11, 0},
                {83, 1, 10}, {83, 2, 10}, {83, 2, 5}};
            for (int i = 0; i < texts.length; i++) {
                due(told(texts[i]), "streak(0, " + want[i][0] + ", 0)", want[i][1]);
                due(told(texts[i]), "streak(0, " + want[i][0] + ", 1)", want[i][2]);
            }
            due(new JealousByCalendar(), "streak(1, 2, 0)", 0);
            due(new JealousByCalendar(), "streak(1, 2, 1)", 0);
            due(told("c39000;u00;"), "streak(0, 0, 1)", 0);
        });
        edge(34, "STREAK: with (what 0), without (1). -1; -4; -6; -2.", () -> {
            JealousByCalendar x = atDay(10);
            due(x, "streak(2, 9, 2)", -1);
            due(x, "streak(0, 9, 2)", -4);
            due(x, "streak(0, 84, 2)", -6);
            due(x, "streak(0, 83, 2)", -2);
            due(x, "streak(0, 10, -1)", -2);
        });
    }

    private static void quarrel() {
        edge(35, "QUARREL: DAYS that are NEEDED of both, and on which both have one BY HAND: how many; the first; -9.", () -> {
            due(told("c39000;c39100;"), "quarrel(83, 0)", 0);
            due(told("c39000;c39100;"), "quarrel(83, 1)", -9);
            due(told("w10;c39000;c39100;"), "quarrel(0, 0)", 1);
            due(told("w10;c39000;c39100;"), "quarrel(0, 1)", 0);
            due(told("w10;c39000;c39107;"), "quarrel(83, 0)", 0);
            due(told("w10;c39007;c39107;"), "quarrel(6, 0)", 0);
            due(told("w10;c39007;c39107;"), "quarrel(7, 1)", 7);
            due(told("w10;c49000;c49100;"), "quarrel(83, 0)", 1);
            // DAY on which one was jealous is not NEEDED of both.
            due(told("w10;c39000;c39100;u00;"), "quarrel(83, 0)", 0);
            due(told("w10;" + causes(6, 5, 9, 0, 0, 0) + causes(6, 5, 9, 1, 0, 0)), "quarrel(83, 0)", 6);
            due(told("w06;w16;c39083;c39183;" + days(83)), "quarrel(83, 1)", 83);
            due(new JealousByCalendar(), "quarrel(83, 1)", -9);
        });
        edge(35, "QUARREL: how many (what 0), the first (1; -9). -4; -6; -2.", () -> {
            refused(JealousByCalendar::new, "quarrel(-1, 2)", -4);
            refused(JealousByCalendar::new, "quarrel(84, 2)", -6);
            refused(JealousByCalendar::new, "quarrel(0, 2)", -2);
            refused(JealousByCalendar::new, "quarrel(83, -1)", -2);
        });
    }

    private static void swapped() {
        edge(36, "SWAPPED: the TWO change WEEKDAYS in mind: LAID of both to n together less that now (may be below 0).", () -> {
            due(new JealousByCalendar(), "swapped(83)", 0);
            due(told("c39000;"), "swapped(83)", -1005);
            due(told("c39100;"), "swapped(83)", 1005);
            due(told("c39100;"), "swapped(0)", 1005);
            due(told("c39003;"), "swapped(2)", 0);
            due(told("c39003;"), "swapped(3)", 1005);
            due(told("c39000;c39003;"), "swapped(83)", 0);
            due(told("c39000;c38003;"), "swapped(83)", -1);
            due(told(HIS), "swapped(83)", -12060);
            due(told(causes(12, 3, 9, 1, 0, 7)), "swapped(83)", 12060);
            due(told("w10;c39000;"), "swapped(83)", 0);
            // He who was jealous on DAY has no NEED of it with her WEEKDAY either.
            due(told("w13;c39000;c19003;u00;"), "swapped(3)", 1012);
            due(told("c39003;d3;c49103;u01;"), "swapped(3)", 1005);
            due(told("c49003;c39003;d3;u00;"), "swapped(3)", 0);
        });
        edge(36, "SWAPPED. Refused as told: -4; -6.", () -> {
            refused(JealousByCalendar::new, "swapped(-1)", FAR + 4, -4);
            refused(JealousByCalendar::new, "swapped(84)", FAR + 6, -6);
        });
    }
}
