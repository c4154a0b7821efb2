/** Objects that have gone through something; each call makes the same one anew. */
final class Scenes {
    private Scenes() {
    }

    static LadderLand fresh() {
        return new LadderLand();
    }

    /** Rules, a rule in force, x, an image and bytes, but no ladder. */
    static LadderLand untold() {
        LadderLand x = new LadderLand();
        rule(x, "climb 1");
        rule(x, "climb want-rung");
        x.force(1);
        x.seed(5);
        x.image(1);
        x.seed(6);
        Bytes.put(x, "ladder 3;broken 1");
        return x;
    }

    /** Of four people one has fallen; a rung is broken, some are worn; two notes, two images, eight acts. */
    static LadderLand lived() {
        LadderLand x = new LadderLand();
        Bytes.put(x, "ladder 6;rung 0 2 90;rung 2 1 40;broken 4;person 2 7 9 5;person 1 5 8 0;person 0 3 7 3;person 5 2 6 5");
        x.ladder();
        rule(x, "climb want-rung if hour<3;climb 0");
        rule(x, "climb 1 if here=0;climb rung-want");
        x.force(0);
        x.seed(77);
        x.note(1, 3, 1);
        x.hour();
        x.image(0);
        x.hour();
        x.note(0, 2, 1);
        x.aim(0, 3);
        x.cut(0);
        x.mend(4);
        x.cut(4);
        x.image(2);
        x.step(0, false);
        x.mend(2);
        Bytes.put(x, "ladder 4;broken 3;person 0 1 1 0");
        return x;
    }

    /** As much as can be: four people, six rules, ten notes, twenty acts to undo, four images, 400 bytes. */
    static LadderLand full() {
        LadderLand x = new LadderLand();
        Bytes.put(x, "ladder 9;rung 3 4 999;person 0 20 30 8;person 8 1 30 0;person 3 9 9 3;person 3 2 4 4");
        x.ladder();
        for (int i = 0; i < 6; i++) {
            rule(x, "climb want-rung if hour<" + (3 * i) + ";climb 0");
        }
        x.force(5);
        x.seed(2147483647);
        for (int i = 0; i < 10; i++) {
            x.note(0, i % 2 == 0 ? 3 : 8, i % 2 == 0 ? 2 : 1);
        }
        for (int k = 0; k < 4; k++) {
            x.image(k);
            for (int i = 0; i < 6; i++) {
                x.hour();
            }
        }
        StringBuilder text = new StringBuilder("ladder 5");
        while (text.length() < 391) {
            text.append(' ');
        }
        Bytes.put(x, text.append(";broken 2").toString());
        return x;
    }

    /** A bare ladder of five rungs and two people, nothing lived through yet. */
    static LadderLand told() {
        LadderLand x = new LadderLand();
        Bytes.put(x, "ladder 5;rung 2 1 30;broken 3;person 1 5 9 4;person 2 6 8 0");
        x.ladder();
        return x;
    }

    private static void rule(LadderLand x, String text) {
        Bytes.put(x, text);
        x.rule();
    }
}
