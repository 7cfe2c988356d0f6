import java.util.List;

/** The edges of what is laid out by CAUSES not USED: promises 11 to 19. */
final class EdgesOfPlans extends Edges {
    // LENT is GOOD for the DAY alone on which it is FOUND: his twelve DAYS, hers.
    private static final String HIS = causes(12, 3, 9, 0, 0, 7);
    private static final String HERS = causes(12, 3, 9, 1, 3, 7);

    private static final String[] QUESTIONS = {"needed(0, 83)", "byHand(0, 83, 0)", "laid(0, 83, 0)", "laid(1, 83, -1)", "wasted(0, 83)",
        "wasted(1, 83)", "notAll(0, 83)", "notAll(1, 83)", "settled(0, 6, 83)", "bestWeekday(0, 83)", "neither(83)", "turns(0)", "turns(1)",
        "run(0, 83, 0)", "run(1, 83, 2)", "gift(0, 9, 83)", "when(0, 0, 0, 83)", "changed(83)", "alike(0)", "alike(1)", "spare(83, 0)",
        "over(0)", "streak(0, 83, 0)", "streak(1, 83, 1)", "quarrel(83, 0)", "swapped(83)", "usedOn(0, 9)", "usedOn(1, 10)", "delay(0, 83)",
        "delay(1, 83)", "need(0, 83)", "need(1, 83)", "loss(83, 0)", "loss(83, 1)", "heavyDay(83, 0)", "lots(20, 1)", "lots(1, 7)", "meant(0, 0)",
        "meant(0, 2)", "months(0, 7, 0)", "law(0)", "friends(0)", "chance(2, 1, 0)", "keep(2)", "judge(0)"};

    static void look() {
        needed();
        byHand();
        laid();
        wasted();
        worth();
        notAll();
        settled();
        neither();
    }

    private static void needed() {
        edge(11, "NEEDED of one: DAYS from DAY to n of his WEEKDAY (but DAY, if he was jealous on it).", () -> {
            JealousByCalendar x = new JealousByCalendar();
            due(x, "needed(0, 0)", 1);
            due(x, "needed(0, 6)", 1);
            due(x, "needed(0, 7)", 2);
            due(x, "needed(0, 76)", 11);
            due(x, "needed(0, 77)", 12);
            due(x, "needed(0, 83)", 12);
            due(x, "needed(1, 2)", 0);
            due(x, "needed(1, 3)", 1);
            due(x, "needed(1, 83)", 12);
            x = told("c09000;u00;");
            due(x, "needed(0, 0)", 0);
            due(x, "needed(0, 6)", 0);
            due(x, "needed(0, 7)", 1);
            due(x, "needed(1, 3)", 1);
            // He was jealous on a DAY that is not his.
            x = told("c49002;d2;u00;");
            due(x, "needed(0, 6)", 0);
            due(x, "needed(0, 7)", 1);
            due(told("c09000;u00;d1;"), "needed(0, 7)", 1);
        });
        edge(11, "in mind, by CAUSES not USED", () -> {
            // Whatever was asked ahead of it, of more or other CAUSES, a question is answered as on a new object.
            String[] texts = {"", "c39000;", "c39100;", "c09000;c09103;", "w02;p0012;p1985;c49002;c09100;c19105;c38104;d2;", "w10;c29000;c59107;c00000;c49100;u03;"};
            for (String text : texts) {
                JealousByCalendar x = told(text);
                does(x, "image()");
                grow(x);
                for (String call : QUESTIONS) ask(x, call);
                does(x, "restore()");
                for (String call : QUESTIONS) {
                    // In mind it is DAY 83 then, each is FOUND elsewhere.
                    ask(x, "lots(20, 1)");
                    due(x, call, ask(told(text), call));
                }
                for (int i = QUESTIONS.length - 1; i >= 0; i--) due(x, QUESTIONS[i], ask(told(text), QUESTIONS[i]));
            }
        });
        edge(11, "NEEDED: how many. -1; -4; -6.", () -> {
            due(atDay(83), "needed(0, 83)", 0);
            due(told("w06;" + days(83)), "needed(0, 83)", 1);
            due(told("w06;c49083;" + days(83) + "u00;"), "needed(0, 83)", 0);
            due(atDay(77), "needed(0, 83)", 1);
            due(atDay(78), "needed(0, 83)", 0);
            refused(() -> atDay(5), "needed(0, 4)", -4);
            due(atDay(5), "needed(0, 5)", 0);
            refused(() -> atDay(5), "needed(0, 84)", -6);
        });
        edge(11, "From now to a DAY n (DAY .. 83), in mind, by CAUSES not USED", () -> {
            // In mind: whatever is asked, all is as it was.
            JealousByCalendar x = told(HIS + "d1;");
            List<Long> was = look(x);
            for (String call : QUESTIONS) {
                taken(x, call);
                due("all is as ahead of " + call, look(x).equals(was) ? 1 : 0, 1);
                x = told(HIS + "d1;");
            }
        });
    }

    /** All CAUSES that there can be, some USED, other WEEKDAYS, other PURSES, a later DAY. */
    private static void grow(JealousByCalendar x) {
        does(x, "set(0, 0, 4)", "set(1, 0, 4)", "set(0, 1, 990)", "set(1, 1, 3)");
        for (int c = x.count(0); c < 12; c++) does(x, "add(" + c % 6 + ", 9, " + c % 2 + ", " + x.count(1) + ")");
        does(x, "end()");
        for (int c = 0; c < 12; c++) ask(x, "use(" + c + ")");
    }

    private static void byHand() {
        edge(12, "on each NEEDED DAY he uses the one FOR him that is GOOD and turns SOUR soonest (FOUND and KEEPS together; of several the least number)", () -> {
            // Neither the one that KEEPS least (13 and 17 are their last DAYS) nor that FOUND first (28 and 12).
            String[] pairs = {"c08000;c10007;d7;", "c10007;c08000;d7;", "c19000;c00007;d7;", "c00007;c19000;d7;"};
            for (String pair : pairs) due(told(pair), "byHand(0, 14, 0)", 0);
            due(told("c08000;c10007;d7;"), "usedOn(0, 7)", 0);
            due(told("c10007;c08000;d7;"), "usedOn(0, 7)", 1);
            due(told("c19000;c00007;d7;"), "usedOn(0, 7)", 1);
            // Of several alike the least number, whichever KEEPS longer.
            due(told("c04000;c20007;d7;"), "usedOn(0, 7)", 0);
            due(told("c20007;c04000;d7;"), "usedOn(0, 7)", 0);
            due(told(causes(12, 0, 0, 0, 0, 0)), "usedOn(0, 0)", 0);
            // Hers, and one that is USED, are none for him.
            due(told("c09100;"), "byHand(0, 0, 0)", 1);
            due(told("c09000;u00;"), "byHand(0, 7, 0)", 1);
        });
        edge(12, "how many DAYS are without; the first such; -9.", () -> {
            JealousByCalendar x = new JealousByCalendar();
            due(x, "byHand(0, 0, 0)", 1);
            due(x, "byHand(0, 0, 1)", 0);
            due(x, "byHand(0, 83, 0)", 12);
            due(x, "byHand(1, 2, 0)", 0);
            due(x, "byHand(1, 2, 1)", -9);
            due(x, "byHand(1, 3, 1)", 3);
            // Each is used once.
            x = told("c09000;");
            due(x, "byHand(0, 7, 0)", 1);
            due(x, "byHand(0, 7, 1)", 7);
            due(x, "byHand(0, 14, 0)", 2);
            due(told("c39100;c09000;c09000;"), "byHand(0, 14, 1)", 14);
            x = told(HIS);
            due(x, "byHand(0, 83, 0)", 0);
            due(x, "byHand(0, 83, 1)", -9);
            x = told(causes(11, 3, 9, 0, 0, 7));
            due(x, "byHand(0, 76, 1)", -9);
            due(x, "byHand(0, 77, 0)", 1);
            due(x, "byHand(0, 83, 1)", 77);
            // GOOD to its last DAY, and no longer.
            due(told("c02000;d1;"), "byHand(0, 7, 0)", 0);
            due(told("c01000;d1;"), "byHand(0, 7, 0)", 1);
            due(told("w06;c09083;" + days(83)), "byHand(0, 83, 0)", 0);
        });
        edge(12, "BY HAND: without (what 0), the first such (1; -9). -1; -4; -6; -2.", () -> {
            JealousByCalendar x = atDay(10);
            due(x, "byHand(2, 9, 2)", -1);
            due(x, "byHand(0, 9, 2)", -4);
            due(x, "byHand(0, 84, 2)", -6);
            due(x, "byHand(0, 83, 2)", -2);
            due(x, "byHand(0, 83, -1)", -2);
            due(x, "byHand(0, 10, 0)", 0);
            due(x, "byHand(1, 10, 0)", 1);
        });
    }

    private static void laid() {
        edge(13, "CAUSES FOR him to NEEDED DAYS for which they are GOOD, each once, each DAY one at most", () -> {
            due(told("c09000;"), "laid(0, 7, -1)", 1010);
            due(told("c09000;c09000;"), "laid(0, 0, -1)", 1010);
            due(told("c09000;c09000;"), "laid(0, 7, -1)", 2020);
            due(told("c09000;c09000;c09000;c09000;"), "laid(0, 14, -1)", 3030);
            // To the last DAY that it KEEPS; on the DAY on which it is FOUND.
            due(told("c02000;d1;"), "laid(0, 7, -1)", 1003);
            due(told("c01000;d1;"), "laid(0, 7, -1)", 0);
            due(told("c39007;"), "laid(0, 6, -1)", 0);
            due(told("c39007;"), "laid(0, 7, -1)", 1005);
            // Hers, USED ones and REAL ones on other DAYS bring him nothing.
            due(told("c09100;"), "laid(0, 83, -1)", 0);
            due(told("c19000;u00;"), "laid(0, 83, -1)", 0);
            due(told("c40001;"), "laid(0, 6, -1)", 0);
        });
        edge(13, "VALUE: 1000 for each DAY that has one, and its WEIGHT; the greatest VALUE", () -> {
            due(new JealousByCalendar(), "laid(0, 83, -1)", 0);
            due(told("c30000;"), "laid(0, 0, -1)", 1000);
            due(told("c49000;c00000;"), "laid(0, 83, -1)", 1029);
            due(told("c00000;c49000;"), "laid(0, 83, -1)", 1029);
            due(told(causes(12, 4, 9, 0, 0, 7)), "laid(0, 83, -1)", 12348);
            due(told(HIS), "laid(0, 83, -1)", 12060);
            // 5 on DAY 0 and 10 on DAY 7 rather than 10 and 1.
            due(told("c09000;c00002;c39000;"), "laid(0, 7, -1)", 2015);
            // The heavy one goes to the later DAY, so that the light one has the first.
            due(told("c09000;c00000;"), "laid(0, 7, -1)", 2011);
            due(told("w06;c30083;" + days(83)), "laid(0, 83, -1)", 1000);
        });
        edge(13, "the first way with it (DAY by DAY the least CAUSE; none is behind all)", () -> {
            // One for two DAYS: the first has it, as none is behind all.
            JealousByCalendar x = told("c09000;");
            due(x, "laid(0, 7, 0)", 0);
            due(x, "laid(0, 7, 1)", -9);
            x = told("c09000;c09000;");
            due(x, "laid(0, 7, 0)", 0);
            due(x, "laid(0, 7, 1)", 1);
            due(x, "laid(0, 14, 2)", -9);
            // 3 for 0 and 7, 10 for 7 to 21, 2 for 0 alone.
            x = told("c02000;c09007;c01000;");
            due(x, "laid(0, 7, 0)", 0);
            due(x, "laid(0, 7, 1)", 1);
            due(x, "laid(0, 14, -1)", 3015);
            due(x, "laid(0, 14, 0)", 2);
            due(x, "laid(0, 14, 1)", 0);
            due(x, "laid(0, 14, 2)", 1);
            // On one DAY the heavier, though its number is greater; alike the least number.
            due(told("c38000;c39000;"), "laid(0, 0, 0)", 1);
            due(told("c39000;c39000;"), "laid(0, 0, 0)", 0);
            due(told(causes(11, 3, 8, 0, 0, 0) + "c39000;"), "laid(0, 0, 0)", 11);
        });
        edge(13, "the CAUSE of the i-th NEEDED DAY; -9.", () -> {
            JealousByCalendar x = told(HIS);
            due(x, "laid(0, 83, 0)", 0);
            due(x, "laid(0, 83, 11)", 11);
            due(x, "laid(0, 83, 12)", -9);
            due(x, "laid(0, 76, 10)", 10);
            due(x, "laid(0, 76, 11)", -9);
            does(x, "end()");
            due(x, "laid(0, 83, 0)", 1);
            due(x, "laid(0, 83, 10)", 11);
            due(x, "laid(0, 83, 11)", -9);
            due(new JealousByCalendar(), "laid(0, 83, 0)", -9);
            due(new JealousByCalendar(), "laid(1, 2, 0)", -9);
        });
        edge(13, "VALUE (i -1), the CAUSE of the i-th (-9). -1; -4 (i below -1, too); -6.", () -> {
            JealousByCalendar x = told("c39000;");
            due(x, "laid(0, 83, -2)", -4);
            due(x, "laid(0, 83, -1)", 1005);
            due(x, "laid(0, 83, 0)", 0);
            due(x, "laid(0, 83, " + MOST + ")", -9);
            due(x, "laid(0, 84, -2)", -4);
            due(x, "laid(0, 84, " + MOST + ")", -6);
            due(x, "laid(0, -1, -1)", -4);
            due(x, "laid(2, -1, -2)", -1);
            refused(() -> told("c39000;"), "laid(0, 83, " + LEAST + ")", -4);
        });
    }

    private static void wasted() {
        edge(14, "CAUSES FOR him (bits, not USED) without each of which alone LAID is the same.", () -> {
            due(told("c39000;c39000;"), "wasted(0, 0)", 3);
            due(told("c39000;c38000;"), "wasted(0, 0)", 2);
            due(told("c38000;c39000;"), "wasted(0, 0)", 1);
            due(told("c39000;"), "wasted(0, 0)", 0);
            due(told("c30000;"), "wasted(0, 0)", 0);
            due(told("c39000;c39000;u00;"), "wasted(0, 0)", 2);
            due(told("c39001;c39101;"), "wasted(0, 83)", 1);
            due(told("c39001;c39101;"), "wasted(1, 83)", 2);
        });
        edge(14, "WASTED (bits). -1; -4; -6.", () -> {
            due(new JealousByCalendar(), "wasted(0, 83)", 0);
            due(told(causes(12, 3, 9, 0, 1, 0)), "wasted(0, 83)", 4095);
            due(told(causes(12, 3, 9, 0, 1, 0)), "wasted(1, 83)", 0);
            due(told(causes(11, 3, 9, 0, 0, 7) + "c39001;"), "wasted(0, 83)", 2048);
            due(told(HIS), "wasted(0, 83)", 0);
            due(told(HIS), "wasted(0, 0)", 4094);
        });
    }

    private static void worth() {
        edge(15, "WORTH of one: LAID of whom it is FOR, less LAID without it.", () -> {
            due(told("c49000;"), "worth(0, 0)", 1029);
            due(told("c30000;"), "worth(0, 0)", 1000);
            due(told("c39001;"), "worth(0, 83)", 0);
            due(told("c39103;"), "worth(0, 2)", 0);
            due(told("c39103;"), "worth(0, 3)", 1005);
            due(told("c39000;c38000;"), "worth(0, 0)", 1);
            due(told("c39000;c38000;"), "worth(1, 0)", 0);
            due(told("c39000;c39000;"), "worth(0, 0)", 0);
            due(told(HIS), "worth(11, 77)", 1005);
            due(told(HIS), "worth(11, 76)", 0);
        });
        edge(15, "WORTH. -1; -3 USED; -4; -6.", () -> {
            refused(() -> told("c39000;"), "worth(1, -1)", -1);
            refused(() -> told("c39000;"), "worth(-1, 0)", -1);
            refused(() -> told("c39000;u00;"), "worth(0, 0)", -3);
            refused(() -> told("c39000;u00;"), "worth(0, -1)", -3);
            refused(() -> told("c39000;u00;"), "worth(0, 84)", -3);
            refused(() -> told("c39000;"), "worth(0, -1)", -4);
            refused(() -> told("c39000;"), "worth(0, 84)", -6);
            refused(() -> told(HIS), "worth(12, 0)", -1);
        });
    }

    private static void notAll() {
        edge(16, "NOT ALL: of the first 8 NEEDED DAYS the fewest that have fewer GOOD CAUSES FOR him together than they are", () -> {
            // The eighth counts, the ninth does not.
            due(told(causes(7, 3, 9, 0, 0, 7)), "notAll(0, 48)", -9);
            due(told(causes(7, 3, 9, 0, 0, 7)), "notAll(0, 49)", 128);
            due(told(causes(8, 3, 9, 0, 0, 7)), "notAll(0, 83)", -9);
            due(told(causes(7, 3, 9, 0, 0, 7)), "notAll(0, 83)", 128);
            // Each KEEPS for two DAYS: seven for eight DAYS, and only all of them have too few.
            due(told(causes(7, 0, 2, 0, 0, 7)), "notAll(0, 83)", 255);
            due(told(causes(7, 0, 2, 0, 0, 7)), "notAll(0, 48)", -9);
            // As many as they are is enough.
            due(told("c39000;"), "notAll(0, 6)", -9);
            due(told("c09000;c09000;"), "notAll(0, 7)", -9);
            due(told("c09000;c09000;"), "notAll(0, 14)", 7);
            // Hers and USED ones are none.
            due(told("c39100;"), "notAll(0, 0)", 1);
            due(told("c09000;u00;"), "notAll(0, 7)", 1);
        });
        edge(16, "the set (bits; of several the least); -9 none.", () -> {
            due(new JealousByCalendar(), "notAll(0, 83)", 1);
            due(told("c39000;"), "notAll(0, 83)", 2);
            // One DAY alone is fewer than two, though their bits are less: 0 and 7 have one, 21 has none.
            due(told("c09000;"), "notAll(0, 14)", 3);
            due(told("c09000;"), "notAll(0, 21)", 8);
            due(new JealousByCalendar(), "notAll(1, 2)", -9);
            due(told("c09000;u00;"), "notAll(0, 6)", -9);
            due(told("w06;" + days(83)), "notAll(0, 83)", 1);
            due(atDay(83), "notAll(0, 83)", -9);
        });
        edge(16, "NOT ALL; -9. -1; -4; -6.", () -> {
            refused(JealousByCalendar::new, "notAll(-1, 0)", -1);
            refused(JealousByCalendar::new, "notAll(0, -1)", -4);
            refused(JealousByCalendar::new, "notAll(0, 84)", -6);
        });
    }

    private static void settled() {
        edge(17, "SETTLED: LAID WEIGHT less 3 for each NEEDED DAY without (may be below 0), were one's WEEKDAY w (NEEDED by it)", () -> {
            JealousByCalendar x = new JealousByCalendar();
            for (int w = 0; w < 7; w++) due(x, "settled(0, " + w + ", 83)", -36);
            due(x, "settled(0, 6, 5)", 0);
            due(x, "settled(0, 6, 6)", -3);
            due(x, "settled(1, 0, 0)", -3);
            due(x, "settled(1, 3, 2)", 0);
            x = told("c39000;c30001;");
            due(x, "settled(0, 0, 0)", 5);
            due(x, "settled(0, 0, 7)", 2);
            due(x, "settled(0, 0, 83)", 5 - 33);
            due(x, "settled(0, 1, 1)", 0);
            due(x, "settled(1, 0, 0)", -3);
            // REAL is GOOD on any; every DAY has one.
            x = told(causes(12, 4, 9, 0, 0, 7));
            for (int w = 0; w < 7; w++) due(x, "settled(0, " + w + ", 83)", 348);
            // DAY itself is not NEEDED, if he was jealous on it.
            x = told("c49000;c39000;w01;u00;");
            due(x, "settled(0, 0, 0)", 0);
            due(x, "settled(0, 0, 7)", -3);
        });
        edge(17, "SETTLED. Refused as told: -1 either; -4; -6.", () -> {
            refused(JealousByCalendar::new, "settled(0, -1, 0)", FAR + 1, -1);
            refused(JealousByCalendar::new, "settled(0, 7, 0)", FAR + 1, -1);
            refused(JealousByCalendar::new, "settled(-1, 0, 0)", FAR + 1, -1);
            refused(JealousByCalendar::new, "settled(2, 0, 0)", FAR + 1, -1);
            refused(JealousByCalendar::new, "settled(0, 7, -1)", FAR + 1, -1);
            refused(JealousByCalendar::new, "settled(0, 0, -1)", FAR + 4, -4);
            refused(JealousByCalendar::new, "settled(0, 0, 84)", FAR + 6, -6);
        });
        edge(18, "BEST WEEKDAY for one, of several the least.", () -> {
            // To DAY 0 all but 0 have no NEEDED DAY, to DAY 5 only 6 has none; to DAY 6 all are alike.
            due(new JealousByCalendar(), "bestWeekday(0, 0)", 1);
            due(new JealousByCalendar(), "bestWeekday(0, 4)", 5);
            due(new JealousByCalendar(), "bestWeekday(0, 5)", 6);
            due(new JealousByCalendar(), "bestWeekday(0, 6)", 0);
            due(new JealousByCalendar(), "bestWeekday(1, 83)", 0);
            due(told("c39006;"), "bestWeekday(0, 83)", 6);
            due(told("c39006;"), "bestWeekday(1, 83)", 0);
            due(told("c39005;c39004;"), "bestWeekday(0, 83)", 4);
            due(atDay(83), "bestWeekday(0, 83)", 0);
            due(told("c39083;" + days(83)), "bestWeekday(0, 83)", 6);
        });
        edge(18, "BEST WEEKDAY. -1; -4; -6.", () -> {
            refused(JealousByCalendar::new, "bestWeekday(2, 0)", -1);
            refused(JealousByCalendar::new, "bestWeekday(0, -1)", -4);
            refused(JealousByCalendar::new, "bestWeekday(0, 84)", -6);
        });
    }

    private static void neither() {
        edge(19, "both choose WEEKDAYS, each for his SETTLED, less 10, if both are alike", () -> {
            // 9 is not worth 10, 10 is as good as nothing: none has more by another.
            due(told("c08000;c08100;"), "neither(0)", 1);
            due(told("c09000;c09100;"), "neither(0)", 0);
            // Both want 6 by all means: 12 less 10 against less 3.
            due(told("c19006;c19106;"), "neither(6)", 66);
        });
        edge(19, "the first pair (10 his and hers) by which neither has more by another choice alone; -9.", () -> {
            due(new JealousByCalendar(), "neither(83)", 1);
            // To DAY 0 nobody stays on 0: the first of the others that are not alike.
            due(new JealousByCalendar(), "neither(0)", 12);
            // To DAY 5 both want 6; if she has it, he has no more by it.
            due(new JealousByCalendar(), "neither(5)", 6);
            due(atDay(83), "neither(83)", 1);
            due(told("c39002;c39105;"), "neither(6)", 25);
            // She has more on 0 than on any other, though he is there; so he goes to 1.
            due(told("d1;c39007;c19107;"), "neither(7)", 10);
            due(told("c19006;c19100;"), "neither(6)", 60);
            // 5 on 6 is his, 5 on 0 hers; to have 0 and 6 is alike for both, and less 10 is worse than less 3.
            due(told("c39006;c39100;"), "neither(6)", 6);
            due(told("c39000;c39106;"), "neither(6)", 6);
        });
        edge(19, "NEITHER; -9. -4; -6.", () -> {
            refused(JealousByCalendar::new, "neither(-1)", -4);
            refused(JealousByCalendar::new, "neither(84)", -6);
        });
    }
}
