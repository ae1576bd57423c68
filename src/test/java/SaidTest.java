/** Promises 23 to 28: what is said, the book. */
public final class SaidTest {
    private static final Check CHECK = new Check();

    public static void main(String[] args) {
        say();
        weights();
        ask();
        write();
        tear();
        judge();
        CHECK.end();
    }

    private static void say() {
        WeddingReasons x = new WeddingReasons();
        CHECK.due("say(-1, 0, 0)", x.say(-1, 0, 0), Check.OUTSIDE);
        CHECK.due("say(3, 0, 0)", x.say(3, 0, 0), Check.OUTSIDE);
        CHECK.due("say(0, -1, 0)", x.say(0, -1, 0), Check.OUTSIDE);
        CHECK.due("say(0, 41, 0)", x.say(0, 41, 0), Check.OUTSIDE);
        CHECK.due("say(0, 0, -1)", x.say(0, 0, -1), Check.OUTSIDE);
        CHECK.due("say(0, 0, 100)", x.say(0, 0, 100), Check.OUTSIDE);
        CHECK.due("told(13)", x.told(13), 0);
        for (int i = 1; i <= 6; i++) {
            CHECK.due("say(2, 40, 99)", x.say(2, 40, 99), i);
            CHECK.due("told(13)", x.told(13), i);
        }
        CHECK.due("say, the seventh", x.say(0, 0, 0), Check.FULL);
        CHECK.due("say(3, 0, 0), the seventh", x.say(3, 0, 0), Check.OUTSIDE);
        CHECK.due("told(13)", x.told(13), 6);
        CHECK.due("told(15)", x.told(15), 0);
    }

    private static void fits(int kind, int s, int v, int many, int least, int greatest) {
        WeddingReasons x = new WeddingReasons();
        x.say(kind, s, v);
        String of = " of say(" + kind + ", " + s + ", " + v + ")";
        CHECK.due("weights(0)" + of, x.weights(0), many);
        CHECK.due("weights(1)" + of, x.weights(1), least);
        CHECK.due("weights(2)" + of, x.weights(2), greatest);
        CHECK.due("ask()" + of, x.ask(), many > 1 ? 0 : -1);
    }

    private static void weights() {
        WeddingReasons x = new WeddingReasons();
        CHECK.due("weights(0)", x.weights(0), 21);
        CHECK.due("weights(1)", x.weights(1), 0);
        CHECK.due("weights(2)", x.weights(2), 20);
        CHECK.due("weights(3)", x.weights(3), Check.OUTSIDE);
        CHECK.due("weights(-1)", x.weights(-1), Check.OUTSIDE);
        fits(0, 5, 25, 1, 20, 20);
        fits(0, 5, 26, 0, -1, -1);
        fits(0, 5, 5, 1, 0, 0);
        fits(0, 5, 4, 0, -1, -1);
        fits(1, 9, 20, 1, 8, 8);
        fits(1, 9, 21, 0, -1, -1);
        fits(1, 40, 60, 1, 20, 20);
        fits(2, 0, 0, 21, 0, 20);
        fits(2, 0, 1, 0, -1, -1);
        fits(2, 1, 5, 1, 20, 20);
        fits(2, 1, 2, 4, 8, 11);
        fits(2, 3, 6, 2, 8, 9);
        fits(2, 40, 90, 1, 9, 9);
        fits(2, 2, 0, 2, 0, 1);
        x.say(2, 1, 2);
        x.say(2, 3, 6);
        CHECK.due("weights(0) of both", x.weights(0), 2);
        CHECK.due("weights(1) of both", x.weights(1), 8);
        CHECK.due("weights(2) of both", x.weights(2), 9);
        x.say(2, 3, 7);
        CHECK.due("weights(0) of what cannot be", x.weights(0), 0);
        CHECK.due("weights(1) of what cannot be", x.weights(1), Check.NONE);
        CHECK.due("weights(2) of what cannot be", x.weights(2), Check.NONE);
    }

    private static void ask() {
        WeddingReasons x = new WeddingReasons();
        CHECK.due("ask() of all", x.ask(), 0);
        x.say(2, 2, 3);
        CHECK.due("ask() of two", x.ask(), 0);
        x.say(0, 0, 6);
        CHECK.due("ask() of one", x.ask(), Check.NONE);
        x.say(0, 0, 7);
        CHECK.due("ask() of none", x.ask(), Check.NONE);
    }

    private static void write() {
        WeddingReasons x = Check.of("d1;c5 0,0,0,0,0;c6 0,0,0,0,0;");
        CHECK.due("write(2, 0)", x.write(2, 0), Check.UNKNOWN);
        CHECK.due("write(-1, 100)", x.write(-1, 100), Check.UNKNOWN);
        CHECK.due("write(0, 100)", x.write(0, 100), Check.OUTSIDE);
        CHECK.due("write(0, -1)", x.write(0, -1), Check.OUTSIDE);
        CHECK.due("told(14)", x.told(14), 0);
        CHECK.due("write(1, 0)", x.write(1, 0), 1);
        CHECK.due("write(1, 99)", x.write(1, 99), 2);
        for (int i = 3; i <= 15; i++) {
            CHECK.due("write(0, 5)", x.write(0, 5), i);
            CHECK.due("told(14)", x.told(14), i);
        }
        CHECK.due("write, the sixteenth", x.write(0, 5), Check.FULL);
        CHECK.due("write(2, 5), the sixteenth", x.write(2, 5), Check.UNKNOWN);
        CHECK.due("write(0, 100), the sixteenth", x.write(0, 100), Check.OUTSIDE);
        CHECK.due("told(14)", x.told(14), 15);
    }

    private static void tear() {
        WeddingReasons x = Check.of("d1;c5 0,0,0,0,0;");
        CHECK.due("tear() of nothing", x.tear(), 0);
        x.say(0, 0, 5);
        x.say(0, 0, 6);
        x.write(0, 6);
        CHECK.due("tear()", x.tear(), 3);
        CHECK.due("told(13)", x.told(13), 0);
        CHECK.due("told(14)", x.told(14), 0);
        CHECK.due("weights(0)", x.weights(0), 21);
        CHECK.due("judge()", x.judge(), Check.NONE);
        CHECK.due("tear() again", x.tear(), 0);
        CHECK.due("say", x.say(0, 0, 5), 1);
        CHECK.due("write", x.write(0, 5), 1);
    }

    private static void judge() {
        WeddingReasons x = Check.of("d1;c5 0,0,0,0,0;c6 0,0,0,0,0;o3 1 0;");
        CHECK.due("judge() of nothing", x.judge(), Check.NONE);
        x.write(0, 5);
        x.write(1, 6);
        CHECK.due("judge(), all right", x.judge(), Check.NONE);
        x.write(1, 7);
        x.write(0, 4);
        CHECK.due("judge(), the first", x.judge(), 2);
        x.year(1);
        CHECK.due("judge() a year on", x.judge(), 0);
        x.practise(0, 5);
        CHECK.due("judge() practised", x.judge(), 1);
        x.undo();
        CHECK.due("judge() undone", x.judge(), 0);
        x.undo();
        x.stand(0, 1);
        x.year(1);
        x.practise(0, 5);
        CHECK.due("judge(), the wed answer stays", x.judge(), 2);
    }
}
