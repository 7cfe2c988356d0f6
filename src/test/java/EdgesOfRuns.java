/** The edges of part IV: promises 37 to 41. */
final class EdgesOfRuns extends Edges {
    static void look() {
        usedOn();
        delay();
        need();
        loss();
        heavyDay();
    }

    private static void usedOn() {
        edge(37, "USED ON: by RUN from now the CAUSE that one uses on a DAY (DAY .. 83); -9.", () -> {
            due(new JealousByCalendar(), "usedOn(0, 0)", -9);
            due(told("c39000;"), "usedOn(0, 0)", 0);
            due(told("c39000;"), "usedOn(0, 1)", -9);
            due(told("c39000;"), "usedOn(0, 7)", -9);
            due(told("c39000;"), "usedOn(1, 0)", -9);
            due(told("c39103;"), "usedOn(1, 3)", 0);
            due(told("c39103;"), "usedOn(0, 3)", -9);
            // To the last DAY, from the first and on itself.
            due(told("w06;c39083;"), "usedOn(0, 83)", 0);
            due(told("w06;c39083;" + days(83)), "usedOn(0, 83)", 0);
            due(told("w06;c39083;" + days(83) + "u00;"), "usedOn(0, 83)", -9);
            due(told("w06;"), "usedOn(0, 83)", -9);
            // What was used ahead of it in the RUN is used no more; REAL waits for his WEEKDAY.
            due(told("c00000;c09000;"), "usedOn(0, 0)", 0);
            due(told("c00000;c09000;"), "usedOn(0, 7)", 1);
            due(told("c00000;c09000;"), "usedOn(0, 14)", -9);
            due(told("c49001;"), "usedOn(0, 1)", -9);
            due(told("c49001;"), "usedOn(0, 7)", 0);
            due(told("c09000;c09000;u00;"), "usedOn(0, 0)", -9);
            due(told("c09000;c09000;u00;"), "usedOn(0, 7)", 1);
            due(told(causes(12, 3, 9, 0, 0, 7)), "usedOn(0, 77)", 11);
        });
        edge(37, "USED ON; -9. -1; -4; -6.", () -> {
            refused(JealousByCalendar::new, "usedOn(2, -1)", -1);
            refused(JealousByCalendar::new, "usedOn(-1, 84)", -1);
            refused(JealousByCalendar::new, "usedOn(0, -1)", -4);
            refused(JealousByCalendar::new, "usedOn(0, 84)", -6);
            refused(() -> atDay(83), "usedOn(0, 82)", -4);
            taken(atDay(83), "usedOn(1, 83)");
        });
    }

    private static void delay() {
        edge(38, "DELAY: the most DAYS k (0 .. n less DAY) by which FOUND of all his CAUSES not USED could be later (83 at most each), LAID to n staying no less.", () -> {
            due(new JealousByCalendar(), "delay(0, 0)", 0);
            due(new JealousByCalendar(), "delay(0, 83)", 83);
            due(atDay(5), "delay(0, 20)", 15);
            due(atDay(83), "delay(0, 83)", 0);
            due(told("c39000;"), "delay(0, 0)", 0);
            due(told("c39000;"), "delay(0, 6)", 0);
            due(told("c39000;"), "delay(0, 7)", 7);
            due(told("c39000;"), "delay(0, 83)", 77);
            due(told("c09000;"), "delay(0, 13)", 7);
            due(told("c09000;"), "delay(0, 14)", 14);
            due(told("c09000;"), "delay(0, 20)", 14);
            due(told("c00102;"), "delay(1, 9)", 1);
            due(told("c39000;c39007;"), "delay(0, 83)", 70);
            due(told("c39000;c39077;"), "delay(0, 83)", 0);
            due(told("c39000;c00077;"), "delay(0, 83)", 0);
            // Each is FOUND on DAY 83 at the latest, and stays GOOD for it.
            due(told("w06;c39083;"), "delay(0, 83)", 83);
            due(told("w06;c39083;"), "delay(0, 82)", 82);
            due(told("w06;c39076;"), "delay(0, 83)", 83);
            due(told("w06;c39076;c39083;"), "delay(0, 83)", 0);
            due(told("w06;c39069;c39083;"), "delay(0, 83)", 7);
            // Hers and USED ones stay where they are; more than there was is no less.
            due(told("c39100;"), "delay(0, 20)", 20);
            due(told("c39003;"), "delay(0, 20)", 20);
            due(told("c39000;u00;"), "delay(0, 20)", 20);
            due(told("c39000;c39007;u00;"), "delay(0, 20)", 7);
        });
        edge(38, "DELAY. -1; -4; -6.", () -> {
            refused(JealousByCalendar::new, "delay(2, -1)", -1);
            refused(JealousByCalendar::new, "delay(0, -1)", -4);
            refused(JealousByCalendar::new, "delay(0, 84)", -6);
        });
    }

    private static void need() {
        edge(39, "NEED: the least PURSE (0 .. 999) of one, now, with which he is OWED no more in a RUN to n than he is now; -9.", () -> {
            due(new JealousByCalendar(), "need(0, 83)", 0);
            due(told("p0000;"), "need(0, 83)", 0);
            // DAY n is not lived; what he has now is nothing to it.
            due(told("w10;c09100;"), "need(0, 0)", 0);
            due(told("w10;c09100;"), "need(0, 1)", 10);
            due(told("p0000;w10;c09100;"), "need(0, 83)", 10);
            due(told("p0999;w10;c09100;"), "need(0, 83)", 10);
            due(told("w10;c30100;"), "need(0, 83)", 0);
            // His fine on DAY 0 ahead of what he pays on DAY 3.
            due(told("c09103;"), "need(0, 83)", 13);
            due(told("c09103;"), "need(0, 3)", 0);
            due(told("c09103;"), "need(0, 4)", 13);
            // What she can just hold, and what she can not, however much he has.
            due(told("w10;c09100;p1989;"), "need(0, 83)", 10);
            due(told("w10;c09100;p1990;"), "need(0, 83)", -9);
            due(told("w10;c09100;p1999;"), "need(0, 83)", -9);
            // Her fine on DAY 3 makes room for what he pays on DAY 10; what he pays her fills it, what she pays him empties it.
            due(told("c09110;p1992;"), "need(0, 83)", 16);
            due(told("c09110;p1993;"), "need(0, 83)", -9);
            due(told("c09103;c09110;p1979;"), "need(0, 83)", 26);
            due(told("c09103;c09110;p1980;"), "need(0, 83)", -9);
            due(told("c09000;c09103;p1999;"), "need(0, 83)", 0);
            due(told("c08000;c09103;p1999;"), "need(0, 83)", -9);
            // What he owes already is not asked for, nor what she owes.
            due(told("p0000;c09103;d3;u00;"), "need(0, 83)", 0);
            due(told("p0000;c09103;c09103;d3;u00;"), "need(0, 83)", 13);
            due(told("p1000;c09000;"), "need(0, 83)", 0);
            due(told("p1000;c09000;"), "need(1, 83)", 10);
            // Twelve REAL ones of FIGURE 9, and a fine each week ahead of it: 12 times 29 and 12 times 3.
            due(told(causes(12, 4, 9, 1, 3, 7)), "need(0, 83)", 384);
            due(told("w06;c49183;" + days(83)), "need(0, 83)", 0);
        });
        edge(39, "NEED; -9. -1; -4; -6.", () -> {
            refused(JealousByCalendar::new, "need(2, -1)", -1);
            refused(JealousByCalendar::new, "need(0, -1)", -4);
            refused(JealousByCalendar::new, "need(0, 84)", -6);
        });
    }

    private static void loss() {
        edge(40, "LOSS: the CAUSE not USED whose loss leaves LAID of both to n together least, of several the least; -9; the two (100 the lesser and the other) likewise; -9.", () -> {
            // The text, the one, the two.
            String[] texts = {"", "c39000;", "c39001;", "c39001;c39001;", "c39000;c39007;", "c38000;c39007;", "c39000;c39000;", "c39000;c39103;",
                "c39001;c39001;c39000;", "c39000;c39007;u00;", "c39000;u00;", "c39000;c39000;c38007;", "c30000;c30007;c31014;"};
            int[] one = {-9, 0, 0, 0, 0, 1, 0, 0, 2, 1, -9, 2, 2};
            int[] two = {-9, -9, -9, 1, 1, 1, 1, 1, 2, -9, -9, 1, 2};
            for (int i = 0; i < texts.length; i++) {
                due(told(texts[i]), "loss(83, 0)", one[i]);
                due(told(texts[i]), "loss(83, 1)", two[i]);
            }
            String last = causes(10, 3, 9, 0, 1, 0) + "c39000;c39103;";
            due(told(last), "loss(83, 0)", 10);
            due(told(last), "loss(83, 1)", 1011);
            due(told(last), "loss(2, 0)", 10);
            due(told(last), "loss(2, 1)", 10);
            due(told(last + "u10;"), "loss(3, 0)", 11);
            due(told(last + "u10;"), "loss(3, 1)", 11);
        });
        edge(40, "LOSS: of one (what 0; -9), of two (1; -9). -4; -6; -2.", () -> {
            refused(JealousByCalendar::new, "loss(-1, 2)", -4);
            refused(JealousByCalendar::new, "loss(84, 2)", -6);
            refused(JealousByCalendar::new, "loss(0, 2)", -2);
            refused(JealousByCalendar::new, "loss(83, -1)", -2);
        });
    }

    private static void heavyDay() {
        edge(41, "HEAVY DAY: of DAYS DAY .. n that on which, by RUN, the most WEIGHT above 0 is used by both, of several the first; -9 none; that WEIGHT (0: none).", () -> {
            // The text, n, the DAY, the WEIGHT.
            String[] texts = {"", "c30000;", "c31000;", "c39000;c39007;", "c38000;c39007;", "c38000;c39007;", "c38000;c39007;", "c39003;", "c49003;",
                "c49003;", "w10;c49000;c49100;", "c49000;c49103;", "w10;c38000;c38100;c39007;", "w06;c39083;", "w06;c39083;", "c49000;u00;"};
            int[][] want = {{83, -9, 0}, {83, -9, 0}, {83, 0, 1}, {83, 0, 5}, {83, 7, 5}, {7, 7, 5}, {6, 0, 4}, {83, -9, 0}, {6, -9, 0},
                {7, 7, 29}, {0, 0, 58}, {83, 0, 29}, {83, 0, 8}, {83, 83, 5}, {82, -9, 0}, {83, -9, 0}};
            for (int i = 0; i < texts.length; i++) {
                due(told(texts[i]), "heavyDay(" + want[i][0] + ", 0)", want[i][1]);
                due(told(texts[i]), "heavyDay(" + want[i][0] + ", 1)", want[i][2]);
            }
            due(told("w06;c39083;" + days(83)), "heavyDay(83, 0)", 83);
            due(told("d7;c39007;"), "heavyDay(7, 0)", 7);
            due(told("d8;c39007;"), "heavyDay(83, 0)", -9);
            // WEIGHT counts whether it is paid or not.
            due(told("p1000;c39000;"), "heavyDay(0, 1)", 5);
        });
        edge(41, "HEAVY DAY: it (what 0; -9), WEIGHT (1). -4; -6; -2.", () -> {
            refused(JealousByCalendar::new, "heavyDay(-1, 2)", -4);
            refused(JealousByCalendar::new, "heavyDay(84, 2)", -6);
            refused(JealousByCalendar::new, "heavyDay(0, 2)", -2);
            refused(JealousByCalendar::new, "heavyDay(83, -1)", -2);
        });
    }
}
