import java.util.Arrays;

/** The edges of turns, months, chances, of RUNS and of what is told by a ROW or a seed: promises 20 to 27, 42 to 45. */
final class EdgesOfNumbers extends Edges {
    static void look() {
        turns();
        months();
        meant();
        law();
        friends();
        chances();
        runs();
        rows();
        judged();
        lots();
    }

    private static void turns() {
        edge(20, "BY TURNS the TWO (he first) take one of all CAUSES not USED till none is left, each to have the most WEIGHT: by how much he has more at the end (may be below 0)", () -> {
            due(new JealousByCalendar(), "turns(0)", 0);
            due(told("c09000;"), "turns(0)", 10);
            due(told("c09100;"), "turns(0)", 10);
            due(told("c30000;"), "turns(0)", 0);
            due(told("c09000;c09100;"), "turns(0)", 0);
            due(told("c09000;c00100;"), "turns(0)", 9);
            due(told("c09000;c08000;u00;"), "turns(0)", 9);
            // 1 to 10, and two of 10: 10 10 10 9 8 .. by turns.
            due(told(twelve()), "turns(0)", 5);
            due(told(causes(11, 4, 9, 0, 0, 7)), "turns(0)", 29);
        });
        edge(20, "the CAUSE that he takes first, of several the least; -9.", () -> {
            due(new JealousByCalendar(), "turns(1)", -9);
            due(told("c09000;u00;"), "turns(1)", -9);
            due(told("c09000;"), "turns(1)", 0);
            due(told("c30000;"), "turns(1)", 0);
            due(told("c09000;c09000;"), "turns(1)", 0);
            due(told("c08000;c09000;"), "turns(1)", 1);
            due(told(twelve()), "turns(1)", 9);
            due(told(causes(11, 0, 8, 0, 0, 0) + "c09000;"), "turns(1)", 11);
            // 3, 5, 5: to begin with 3 brings him 3 more as well.
            due(told("c02000;c04000;c04000;"), "turns(1)", 0);
        });
        edge(20, "BY TURNS: how much (what 0), the CAUSE (1; -9). Refused as told: -2.", () -> {
            refused(JealousByCalendar::new, "turns(-1)", FAR + 2, -2);
            refused(JealousByCalendar::new, "turns(2)", FAR + 2, -2);
        });
    }

    /** WEIGHTS 1 to 10, 10, 10. */
    private static String twelve() {
        StringBuilder text = new StringBuilder();
        for (int c = 0; c < 12; c++) text.append("c0").append(Math.min(c, 9)).append("000;");
        return text.toString();
    }

    private static void months() {
        edge(21, "MONTHS of m DAYS (7 .. 31), whole ones from DAY 0 to 83: how many have the most of a WEEKDAY that any has; that number; the first of these.", () -> {
            // WEEKDAY, m, how many, that number, the first.
            int[][] all = {{0, 7, 12, 1, 0}, {6, 7, 12, 1, 0}, {0, 28, 3, 4, 0}, {6, 28, 3, 4, 0},
                {0, 12, 5, 2, 0}, {6, 12, 5, 2, 1}, {0, 31, 1, 5, 0}, {2, 31, 1, 5, 0}, {3, 31, 1, 5, 1}, {5, 31, 1, 5, 1}, {6, 31, 2, 4, 0},
                {0, 30, 1, 5, 0}, {0, 17, 2, 3, 0}, {6, 21, 4, 3, 0}, {0, 27, 3, 4, 0}, {6, 8, 1, 2, 6}};
            for (int[] one : all) {
                for (int what = 0; what < 3; what++) {
                    due(new JealousByCalendar(), "months(" + one[0] + ", " + one[1] + ", " + what + ")", one[2 + what]);
                    due(atDay(83), "months(" + one[0] + ", " + one[1] + ", " + what + ")", one[2 + what]);
                }
            }
        });
        edge(21, "-1; -4 7; -6 31; -2.", () -> {
            refused(JealousByCalendar::new, "months(-1, 7, 0)", -1);
            refused(JealousByCalendar::new, "months(7, 7, 0)", -1);
            refused(JealousByCalendar::new, "months(0, 6, 0)", -4);
            refused(JealousByCalendar::new, "months(0, 32, 0)", -6);
            refused(JealousByCalendar::new, "months(0, 7, -1)", -2);
            refused(JealousByCalendar::new, "months(0, 31, 3)", -2);
            refused(JealousByCalendar::new, "months(7, 6, 3)", -1);
            refused(JealousByCalendar::new, "months(6, 6, 3)", -4);
            refused(JealousByCalendar::new, "months(6, 32, 3)", -6);
        });
        edge(21, "MONTHS: how many (what 0), that number (1), the first (2).", () -> {
            taken(new JealousByCalendar(), "months(0, 7, 0)");
            taken(new JealousByCalendar(), "months(6, 31, 2)");
        });
    }

    private static JealousByCalendar rowed(String text, int... numbers) {
        JealousByCalendar x = told(text);
        row(x, numbers);
        return x;
    }

    private static void meant() {
        edge(22, "MEANT: a ROW of DAYS (rising, his WEEKDAY) on which one was jealous: in how many ways CAUSES FOR him (not USED), each once, could have been GOOD for these", () -> {
            due(rowed(""), "meant(0, 0)", 1);
            due(rowed("", 0), "meant(0, 0)", 0);
            due(rowed("c09000;", 0), "meant(0, 0)", 1);
            due(rowed("c09000;", 14), "meant(0, 0)", 1);
            due(rowed("c09000;", 21), "meant(0, 0)", 0);
            due(rowed("c09000;", 0, 7), "meant(0, 0)", 0);
            due(rowed("c09000;c09000;", 0, 7), "meant(0, 0)", 2);
            due(rowed("c09100;", 0), "meant(0, 0)", 0);
            due(rowed("c09000;u00;", 0), "meant(0, 0)", 0);
            due(rowed(causes(12, 0, 9, 0, 0, 0), 0), "meant(0, 0)", 12);
            // NOTES of FIGURE 9 KEEP for six DAYS of his; eight of these ways for eight DAYS come from two heaps of six.
            due(rowed(causes(12, 5, 9, 0, 0, 0), 0, 7, 14, 21, 28, 35), "meant(0, 0)", 665280);
            due(rowed(causes(6, 5, 9, 0, 0, 0) + causes(6, 5, 9, 0, 42, 0), 0, 7, 14, 21, 42, 49, 56, 63), "meant(0, 0)", 360 * 360);
            // DAYS that have been count as well, and the last that there is.
            due(rowed("c09000;" + days(83), 0), "meant(0, 0)", 1);
            due(rowed("w06;c39083;", 83), "meant(0, 0)", 1);
        });
        edge(22, "CAUSES (bits) that are in all of these ways (all FOR him not USED, if there is no way); in some.", () -> {
            due(rowed("c09000;c09100;"), "meant(0, 1)", 0);
            due(rowed("c09000;c09100;"), "meant(0, 2)", 0);
            due(rowed("c09000;c09100;c09000;", 21), "meant(0, 1)", 5);
            due(rowed("c09000;c09100;c09000;", 21), "meant(0, 2)", 0);
            due(rowed("c09000;c09100;c09000;u00;", 21), "meant(0, 1)", 4);
            due(rowed("", 0), "meant(0, 1)", 0);
            due(rowed("c09000;", 0), "meant(0, 1)", 1);
            due(rowed("c09000;c09000;", 0), "meant(0, 1)", 0);
            due(rowed("c09000;c09000;", 0), "meant(0, 2)", 3);
            due(rowed("c09000;c09000;", 0, 7), "meant(0, 1)", 3);
            due(rowed(causes(12, 3, 9, 0, 0, 7), 77), "meant(0, 1)", 2048);
            due(rowed(causes(12, 3, 9, 0, 0, 7), 77), "meant(0, 2)", 2048);
            due(rowed(causes(12, 0, 9, 0, 0, 0), 0), "meant(0, 2)", 4095);
            due(rowed(causes(12, 0, 9, 0, 0, 0), 21), "meant(0, 1)", 4095);
        });
        edge(22, "Refused as told: -1; -2; -3 it does not rise, a DAY of another WEEKDAY, above 83, more than 8.", () -> {
            int[][] wrong = {{7, 0}, {7, 7}, {0, 7, 7}, {1}, {6}, {0, 8}, {84}, {0, 98}, {99}, {0, 7, 14, 21, 28, 35, 42, 49, 56}};
            for (int[] numbers : wrong) {
                refused(() -> rowed("", numbers), "meant(0, 0)", LONG + 3, -3);
                refused(() -> rowed("", numbers), "meant(0, 2)", LONG + 3, -3);
                refused(() -> rowed("", numbers), "meant(0, 3)", LONG + 2, -2);
                refused(() -> rowed("", numbers), "meant(2, 3)", LONG + 1, -1);
            }
            refused(() -> rowed("", 3, 0), "meant(1, 0)", LONG + 3, -3);
            taken(rowed("", 0, 7, 14, 21, 28, 35, 42, 49), "meant(0, 0)");
            taken(rowed("", 77), "meant(0, 0)");
            taken(rowed("w06;", 6, 83), "meant(0, 2)");
            taken(rowed("", 3, 80), "meant(1, 1)");
            refused(() -> rowed("w05;", 83), "meant(0, 0)", LONG + 3, -3);
        });
        edge(22, "MEANT by the ROW (it stays): ways (what 0), in all (1), in some (2) (bits).", () -> {
            JealousByCalendar x = rowed("c09000;", 0);
            for (int what = 0; what < 3; what++) due(x, "meant(0, " + what + ")", 1);
            due(x, "count(5)", 1);
            refused(() -> rowed("", 1), "meant(0, 0)", LONG + 3, -3);
        });
    }

    private static void law() {
        edge(23, "LAW: a ROW of DAYS: in how many ways all could have been found each k-th DAY from s on (k 1 .. 20, s 0 .. k less 1: DAYS s, s and k, ..); the greatest such k and s (100 k and s); -9.", () -> {
            due(rowed(""), "law(0)", 210);
            due(rowed(""), "law(1)", 2019);
            // The numbers of the ROW, then how many ways and the greatest.
            int[][] all = {{0, 20, 2000}, {19, 20, 2019}, {20, 20, 2000}, {39, 20, 2019}, {83, 20, 2003},
                {0, 20, 6, 2000}, {19, 39, 6, 2019}, {0, 19, 2, 1900}, {0, 21, 3, 700}, {0, 83, 1, 100}, {18, 37, 2, 1918}, {5, 5, 20, 2005},
                {26, 5, 12, 2, 705}, {0, 1, 1, 100}, {0, 2, 2, 200}, {1, 3, 2, 201}};
            for (int[] one : all) {
                int[] numbers = Arrays.copyOf(one, one.length - 2);
                due(rowed("", numbers), "law(0)", one[one.length - 2]);
                due(rowed("", numbers), "law(1)", one[one.length - 1]);
            }
            due(rowed("", 0, 7, 14, 21, 28, 35, 42, 49, 56, 63, 70, 77), "law(1)", 700);
            due(rowed("", 0, 7, 14, 21, 28, 35, 42, 49, 56, 63, 70, 78), "law(1)", 100);
        });
        edge(23, "LAW by the ROW (it stays): ways (what 0), the greatest (1; -9). -2; -3 one above 83.", () -> {
            JealousByCalendar x = rowed("", 83);
            taken(x, "law(0)");
            taken(x, "law(1)");
            due(x, "count(5)", 1);
            refused(() -> rowed("", 84), "law(0)", -3);
            refused(() -> rowed("", 0, 99, 1), "law(1)", -3);
            refused(() -> rowed("", 0, 0, 0, 0, 0, 0, 0, 0, 0, 0, 0, 84), "law(1)", -3);
            refused(() -> rowed("", 84), "law(2)", -2);
            refused(() -> rowed(""), "law(-1)", -2);
        });
    }

    private static void friends() {
        edge(24, "FRIENDS: a ROW of WEEKDAYS, one for each couple: the fewest friends such that each couple has one each week on its WEEKDAY, none is lent twice on one, nor on the WEEKDAY behind one on which he was (6 is ahead of 0)", () -> {
            due(rowed(""), "friends(0)", 0);
            // The numbers of the ROW, then the fewest.
            int[][] all = {{0, 1}, {6, 1}, {0, 0, 2}, {0, 1, 2}, {5, 6, 2}, {6, 0, 2}, {0, 6, 2}, {0, 2, 1}, {0, 5, 1}, {6, 1, 1},
                {0, 2, 4, 1}, {1, 3, 5, 1}, {0, 2, 4, 6, 2}, {0, 1, 2, 3, 4, 5, 2}, {0, 1, 2, 3, 4, 5, 6, 3}, {0, 0, 6, 6, 4},
                {0, 0, 0, 0, 0, 0, 0, 0, 0, 0, 0, 0, 12}, {0, 0, 0, 0, 0, 0, 6, 6, 6, 6, 6, 6, 12}, {0, 0, 1, 1, 2, 2, 3, 3, 4, 4, 5, 5, 4},
                {0, 0, 0, 0, 2, 2, 2, 2, 4, 4, 4, 4, 4}, {0, 1, 2, 3, 4, 5, 6, 0, 2, 4, 4}, {0, 1, 2, 3, 4, 5, 6, 0, 1, 2, 3, 4, 4}};
            for (int[] one : all) due(rowed("", Arrays.copyOf(one, one.length - 1)), "friends(0)", one[one.length - 1]);
        });
        edge(24, "the WEEKDAY with the most couples, of several the least; -9.", () -> {
            due(rowed(""), "friends(1)", -9);
            due(rowed("", 6), "friends(1)", 6);
            due(rowed("", 0), "friends(1)", 0);
            due(rowed("", 6, 6, 0, 0), "friends(1)", 0);
            due(rowed("", 6, 6, 0), "friends(1)", 6);
            due(rowed("", 3, 5, 5, 3), "friends(1)", 3);
            due(rowed("", 0, 1, 2, 3, 4, 5, 6), "friends(1)", 0);
        });
        edge(24, "FRIENDS by the ROW (it stays): fewest (what 0), WEEKDAY (1; -9). -2; -3 one above 6.", () -> {
            JealousByCalendar x = rowed("", 6, 0);
            taken(x, "friends(0)");
            taken(x, "friends(1)");
            due(x, "count(5)", 2);
            refused(() -> rowed("", 7), "friends(0)", -3);
            refused(() -> rowed("", 6, 99), "friends(1)", -3);
            refused(() -> rowed("", 7), "friends(2)", -2);
            refused(() -> rowed("", 7), "friends(-1)", -2);
        });
    }

    private static void chances() {
        edge(25, "CHANCE: real ones come on each DAY in one of t (2 .. 20), by themselves: how likely at least one in n weeks (0 .. 12) on one's WEEKDAY: a fraction", () -> {
            // t, n, above and below the line.
            long[][] all = {{2, 1, 1, 2}, {2, 2, 3, 4}, {3, 2, 5, 9}, {6, 3, 91, 216}, {20, 1, 1, 20}, {2, 12, 4095, 4096},
                {20, 12, 1882685080933839L, 4096000000000000L}};
            for (long[] one : all) {
                due(new JealousByCalendar(), "chance(" + one[0] + ", " + one[1] + ", 0)", one[2]);
                due(new JealousByCalendar(), "chance(" + one[0] + ", " + one[1] + ", 1)", one[3]);
            }
        });
        edge(25, "(Fractions are told in lowest terms; 0 as 0 over 1.)", () -> {
            for (int t = 2; t <= 20; t++) {
                due(new JealousByCalendar(), "chance(" + t + ", 0, 0)", 0);
                due(new JealousByCalendar(), "chance(" + t + ", 0, 1)", 1);
                JealousByCalendar x = new JealousByCalendar();
                for (int n = 1; n <= 12; n++) {
                    long above = x.chance(t, n, 0);
                    long below = x.chance(t, n, 1);
                    due("divisor of " + above + " and " + below, divisor(above, below), 1);
                }
            }
        });
        edge(25, "CHANCE; part 0 above, 1 below the line. Refused as told: -4 (t below 2, n below 0); -6 (20; 12); -2.", () -> {
            refused(JealousByCalendar::new, "chance(1, 0, 0)", LONG + 4, -4);
            refused(JealousByCalendar::new, "chance(2, -1, 0)", LONG + 4, -4);
            refused(JealousByCalendar::new, "chance(21, 0, 0)", LONG + 6, -6);
            refused(JealousByCalendar::new, "chance(2, 13, 0)", LONG + 6, -6);
            refused(JealousByCalendar::new, "chance(20, 12, 2)", LONG + 2, -2);
            refused(JealousByCalendar::new, "chance(2, 0, -1)", LONG + 2, -2);
            refused(JealousByCalendar::new, "chance(21, -1, 2)", LONG + 4, -4);
            refused(JealousByCalendar::new, "chance(1, 13, 2)", LONG + 4, -4);
            refused(JealousByCalendar::new, "chance(20, 13, 2)", LONG + 6, -6);
        });
        edge(26, "KEEP: the fewest weeks (0 .. 12) with half or more; -9.", () -> {
            // One in two is half in one week; the least n with 2 (t - 1) to the n no more than t to the n.
            int[] weeks = {1, 2, 3, 4, 4, 5, 6, 6, 7, 8, 8, 9, 10, 11, 11, 12, -9, -9, -9};
            for (int t = 2; t <= 20; t++) due(new JealousByCalendar(), "keep(" + t + ")", weeks[t - 2]);
        });
        edge(26, "KEEP; -9. -4; -6 20.", () -> {
            refused(JealousByCalendar::new, "keep(1)", -4);
            refused(JealousByCalendar::new, "keep(21)", -6);
            taken(new JealousByCalendar(), "keep(2)");
            taken(new JealousByCalendar(), "keep(20)");
        });
    }

    private static long divisor(long a, long b) {
        return b == 0 ? a : divisor(b, a % b);
    }

    private static void runs() {
        edge(27, "RUN to a DAY n: till DAY is n, on each DAY each of the TWO (he first) whose WEEKDAY it is, and who was not jealous on it, uses one as BY HAND (if there is one), paying as told, then it ends", () -> {
            // To DAY itself nothing is.
            due(told("c49000;"), "run(0, 0, 0)", 50);
            due(told("c49000;"), "run(0, 1, 0)", 79);
            due(new JealousByCalendar(), "run(0, 0, 1)", 0);
            due(new JealousByCalendar(), "run(0, 1, 1)", 1);
            due(told("w06;c49083;" + days(83)), "run(0, 83, 0)", told("w06;" + days(83)).one(0, 1));
            due(told("w05;c49082;p1500;" + days(82)), "run(0, 83, 0)", told("w05;" + days(82)).one(0, 1) + 29);
            // He first: what she pays him is what he pays her with. Were she the first, he would owe 10.
            due(told("p0000;p1010;w10;c09100;c09000;"), "run(0, 1, 2)", 0);
            due(told("p0010;p1000;w10;c09100;c09000;"), "run(1, 1, 2)", 10);
            // She uses hers on each DAY of hers.
            due(told("c09103;c09110;"), "run(1, 11, 0)", 70);
            due(told("c09103;c09110;"), "run(1, 11, 1)", 0);
            due(told("c09103;c09110;"), "run(0, 11, 0)", 50 - 3 - 10 - 3 - 10);
            // REAL is used on his WEEKDAY alone; who was jealous on DAY uses none and borrows none.
            due(told("c49001;"), "run(0, 7, 0)", 47);
            due(told("c49001;"), "run(1, 8, 0)", 47 - 29);
            due(told("c09000;c09000;u00;"), "run(0, 1, 0)", 60);
            due(told("c09000;c09000;u00;"), "run(0, 1, 1)", 0);
            due(told("c09000;c09000;u00;"), "run(0, 8, 0)", 70);
            // Each is used once, and none for nobody.
            due(told("c09000;"), "run(0, 8, 0)", 57);
            due(told("c09000;"), "run(0, 8, 1)", 1);
            due(told("w06;w16;"), "run(0, 6, 1)", 0);
        });
        edge(27, "PURSE, BORROWED, OWED of one then.", () -> {
            JealousByCalendar x = new JealousByCalendar();
            due(x, "run(0, 83, 0)", 14);
            due(x, "run(0, 83, 1)", 12);
            due(x, "run(0, 83, 2)", 0);
            // Twelve fines are more than there is; a full purse stays full.
            due(told("p0035;"), "run(0, 83, 0)", 0);
            due(told("p0999;p1999;c49000;"), "run(0, 1, 0)", 999);
            due(told("p0999;p1999;c49000;"), "run(1, 1, 2)", 29);
        });
        edge(27, "RUN: PURSE (what 0), BORROWED (1), OWED (2). -1; -4; -6; -2.", () -> {
            JealousByCalendar x = atDay(10);
            due(x, "run(2, 9, 3)", -1);
            due(x, "run(0, 9, 3)", -4);
            due(x, "run(0, 84, 3)", -6);
            due(x, "run(0, 10, 3)", -2);
            due(x, "run(0, 83, -1)", -2);
            taken(x, "run(0, 10, 2)");
            taken(x, "run(1, 83, 0)");
        });
    }

    private static void rows() {
        edge(42, "A number more of the ROW: how many. -4; -6 (99; 12, too).", () -> {
            JealousByCalendar x = new JealousByCalendar();
            for (int i = 1; i <= 12; i++) due(x, "row(" + i % 2 * 99 + ")", i);
            refused(JealousByCalendar::new, "row(-1)", -4);
            refused(JealousByCalendar::new, "row(100)", -6);
            refused(() -> rowed("", new int[12]), "row(0)", -6);
            refused(() -> rowed("", new int[12]), "row(-1)", -4);
            refused(() -> rowed("", new int[12]), "row(100)", -6);
        });
        edge(44, "The ROW has none then: how many it had.", () -> {
            JealousByCalendar x = new JealousByCalendar();
            due(x, "clear()", 0);
            for (int i = 0; i < 12; i++) does(x, "row(7)");
            due(x, "clear()", 12);
            due(x, "clear()", 0);
            due(x, "count(5)", 0);
            due(x, "row(3)", 1);
            due(x, "friends(1)", 3);
        });
    }

    private static void judged() {
        edge(43, "A ROW of numbers (0 .. 99; 12 at most): JUDGED of one: his PURSE (99 for 99 or more) by RUN to DAY and 1, DAY and 2, ..: the first that is not so (beyond DAY 83, too); -9.", () -> {
            // His PURSE, what is told, the answer.
            int[][] all = {{101, 98, -9}, {101, 97, 0}, {101, 99, 0}, {102, 99, -9}, {102, 98, 0}, {103, 99, -9}, {999, 99, -9}, {999, 98, 0},
                {3, 0, -9}, {3, 3, 0}, {0, 0, -9}, {0, 1, 0}};
            for (int[] one : all) due(rowed(String.format("p0%03d;", one[0]), one[1]), "judge(0)", one[2]);
            due(rowed(""), "judge(0)", -9);
            due(rowed("", 50, 47), "judge(0)", 0);
            due(rowed("", 47, 50), "judge(0)", 1);
            due(rowed("", 47, 47, 47, 47, 47, 47, 47, 44, 44, 44, 44, 44), "judge(0)", -9);
            due(rowed("", 47, 47, 47, 47, 47, 47, 47, 44, 44, 44, 44, 43), "judge(0)", 11);
            due(rowed("", 50, 50, 50, 47), "judge(1)", -9);
            due(rowed("c49000;p0010;", 39), "judge(0)", -9);
            due(rowed("c49000;p0010;", 21), "judge(1)", -9);
            // From now, whatever was asked ahead of it.
            JealousByCalendar x = rowed("", 47, 47);
            does(x, "lots(20, 1)", "run(0, 83, 0)");
            due(x, "judge(0)", -9);
            // DAY 83 is the last: what is told of a DAY behind it is not so.
            due(rowed(days(82), 14), "judge(0)", -9);
            due(rowed(days(82), 14, 14), "judge(0)", 1);
            due(rowed(days(83), 14), "judge(0)", 0);
            due(rowed(days(83)), "judge(0)", -9);
            due(rowed(days(75), 17, 17, 14, 14, 14, 14, 14, 14, 14), "judge(0)", 8);
        });
        edge(43, "JUDGED; -9 (whichever it answers, the ROW has none then). -1 (it stays).", () -> {
            JealousByCalendar x = rowed("", 47);
            due(x, "judge(0)", -9);
            due(x, "count(5)", 0);
            row(x, 47, 0);
            due(x, "judge(0)", 1);
            due(x, "count(5)", 0);
            refused(() -> rowed("", 47, 7), "judge(2)", -1);
            refused(() -> rowed("", 47, 7), "judge(-1)", -1);
            x = rowed("", 47, 7);
            ask(x, "judge(2)");
            due(x, "count(5)", 2);
            due(x, "judge(0)", 1);
        });
    }

    private static void lots() {
        edge(45, "LOTS with a seed z: n years (1 .. 20): FOUND of each CAUSE not USED a DRAW below 84 (by numbers); RUN to 83: all BORROWED of both (with what was) together.", () -> {
            due(new JealousByCalendar(), "lots(1, 5)", 24);
            due(new JealousByCalendar(), "lots(20, 5)", 480);
            due(atDay(83), "lots(1, 5)", 24);
            due(told("c09000;u00;"), "lots(1, 5)", 23);
            // With seed 1 the DRAWS are 16838, 5758, 10113, 17515, 31051, 5627, 23010, 7419, 16212 modulo 84: 38, 46,
            // 33, 43, 55, 83, 78, 27, 0; LENT is used on that DAY alone. DAY 83 does not end.
            String nine = causes(9, 3, 9, 0, 50, 0);
            int[] used = {1, 2, 0, 1, 1, 1, 2};
            int[] days = {12, 12, 12, 12, 12, 12, 11};
            for (int w = 0; w < 7; w++) due(told("w0" + w + ";" + nine), "lots(1, 1)", days[w] - used[w] + 12);
            // A year later the DRAWS go on: 38, then 46.
            due(told("w03;c39000;"), "lots(1, 1)", 23);
            due(told("w03;c39000;"), "lots(2, 1)", 47);
            due(told("w04;c39000;"), "lots(1, 1)", 24);
            due(told("w04;c39000;"), "lots(2, 1)", 47);
            // A USED one takes no DRAW.
            due(told("c49000;u00;w03;c39000;"), "lots(1, 1)", 23);
        });
        edge(45, "DRAWS: z becomes z times 1103515245 plus 12345 (an int, wrapping); a DRAW below n is (z without its sign's bit, over 65536, cut) modulo n.", () -> {
            // The seed and its first DRAW: 0 by 12345 over 65536; 908 modulo 84; 15929 modulo 84.
            int[][] draws = {{0, 0}, {1, 38}, {2, 68}, {-1, 53}, {MOST, 53}, {LEAST, 0}};
            for (int[] one : draws) {
                for (int w = 0; w < 7; w++) {
                    due(told("w0" + w + ";c39000;"), "lots(1, " + one[0] + ")", one[1] % 7 == w ? (w == 6 ? 22 : 23) : (w == 6 ? 23 : 24));
                }
            }
        });
        edge(45, "LOTS. -4; -6 20.", () -> {
            refused(JealousByCalendar::new, "lots(0, 1)", -4);
            refused(JealousByCalendar::new, "lots(21, 1)", -6);
            taken(new JealousByCalendar(), "lots(1, " + LEAST + ")");
            taken(new JealousByCalendar(), "lots(20, " + MOST + ")");
        });
    }
}
