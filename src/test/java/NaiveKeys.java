import java.util.ArrayList;
import java.util.List;

/** The keys' ways as the classes of the document themselves. */
final class NaiveKeys {
    static final Class<?>[] KINDS = {
        Key.class, Dent.class, Lamp.class, Dog.class, Paper.class, Thief.class, Dice.class, Sleep.class
    };

    private NaiveKeys() {
    }

    static Key make(int kind, int n) {
        Key[] all = {new Key(), new Dent(), new Lamp(), new Dog(), new Paper(), new Thief(), new Dice(), new Sleep()};
        all[kind].kind = kind;
        all[kind].n = n;
        return all[kind];
    }

    interface Turns {
        int number();

        void runs(int body);

        default int turns(int x) {
            runs(1);
            return x + number();
        }
    }

    interface Tells {
        int sees(int x);

        int fears(int x);

        void runs(int body);

        default int tells(int x) {
            runs(2);
            return sees(x) - fears(1);
        }
    }

    static class Key implements Turns, Tells {
        int kind, n;
        List<Integer> ran = new ArrayList<>();

        @Override public int number() {
            return n;
        }

        @Override public void runs(int body) {
            ran.add(body);
        }

        @Override public int sees(int x) {
            runs(10);
            return turns(x) * 2;
        }

        @Override public int fears(int x) {
            runs(11);
            return x ^ n;
        }
    }

    static class Dent extends Key {
        @Override public int turns(int x) {
            runs(20);
            return super.turns(x) + 3;
        }
    }

    static class Lamp extends Key {
        @Override public int sees(int x) {
            runs(30);
            return -super.sees(x);
        }
    }

    static class Dog extends Lamp {
        @Override public int fears(int x) {
            runs(40);
            return super.fears(x) * 3;
        }

        @Override public int sees(int x) {
            runs(41);
            return super.sees(x + 1);
        }
    }

    static class Paper extends Dent {
        @Override public int fears(int x) {
            runs(50);
            return super.fears(x) - turns(2);
        }
    }

    static class Thief extends Dog {
        @Override public int tells(int x) {
            runs(60);
            return super.tells(x) ^ 5;
        }
    }

    static class Dice extends Key {
        @Override public int turns(int x) {
            runs(70);
            return super.turns(x) * 2;
        }
    }

    static class Sleep extends Paper {
        @Override public int sees(int x) {
            runs(80);
            return super.sees(x) + fears(2);
        }

        @Override public int tells(int x) {
            runs(81);
            return super.tells(x) - 1;
        }
    }
}
