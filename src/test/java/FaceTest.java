import java.lang.management.ManagementFactory;
import java.lang.reflect.Constructor;
import java.lang.reflect.Field;
import java.lang.reflect.Method;
import java.lang.reflect.Modifier;
import java.util.Arrays;
import java.util.Set;
import java.util.TreeSet;

/** The face is the document's and no more, and calls make no objects: all of a run live in one room. */
public final class FaceTest {
    private static final String FACE = "feed(long,long,long)int path()int day()int yard(int,int)int person(int,int)int space()int"
        + " heaps(int)int lies()int walk(int)int empty(int)int put(int,int)boolean off(int)int sweep(int)int hour()int undo()boolean"
        + " judged(int)int leaves(int,int)int all()int place(int,int,int)int move()int full()int without(int)int hands(int)int"
        + " grows(int,int)int order(int)int rounds(int,int,int)int from(int,int)int bare(int)int deposit(int)int find(int,int)boolean"
        + " who()int look()int mean(int)int rests(int,int,int)int weeks(int,int,int)int mark(int,boolean)boolean count(int)int";

    public static void main(String[] args) {
        face();
        room();
        Due.end();
    }

    private static void face() {
        Set<String> due = new TreeSet<>(Arrays.asList(FACE.split(" ")));
        Set<String> names = new TreeSet<>();
        for (String method : due) {
            names.add(method.substring(0, method.indexOf('(')));
        }
        Set<String> got = new TreeSet<>();
        for (Method method : LakeBins.class.getDeclaredMethods()) {
            if (Modifier.isPublic(method.getModifiers())) {
                got.add(signature(method));
            } else {
                Due.due(method + " is private", Modifier.isPrivate(method.getModifiers()), true);
                Due.due(method + " has a name of its own", names.contains(method.getName()), false);
            }
        }
        Due.due("face " + got, got.equals(due), true);
        for (Field field : LakeBins.class.getDeclaredFields()) {
            boolean constant = field.getName().equals("NONE");
            Due.due(field + " is private", Modifier.isPrivate(field.getModifiers()), !constant);
        }
        Constructor<?>[] constructors = LakeBins.class.getDeclaredConstructors();
        Due.due("constructors", constructors.length, 1);
        Due.due("it is public", Modifier.isPublic(constructors[0].getModifiers()), true);
        Due.due("the class is final", Modifier.isFinal(LakeBins.class.getModifiers()), true);
    }

    private static String signature(Method method) {
        StringBuilder text = new StringBuilder(method.getName()).append('(');
        for (Class<?> type : method.getParameterTypes()) {
            text.append(text.charAt(text.length() - 1) == '(' ? "" : ",").append(type.getName());
        }
        return text.append(')').append(method.getReturnType().getName()).toString();
    }

    private static void room() {
        com.sun.management.ThreadMXBean threads = (com.sun.management.ThreadMXBean) ManagementFactory.getThreadMXBean();
        long thread = Thread.currentThread().getId();
        LakeBins lake = Due.told("yards 8; drops has - near; takes heap - far; deposit 1; winds 1 2;"
            + "person a plain carries 1 brings 2; person b child carries 1 brings 2; person c dog carries 1 brings 2; lies 3 9;");
        callAll(lake);
        long ahead = threads.getThreadAllocatedBytes(thread);
        for (int i = 0; i < 10; i++) {
            callAll(lake);
        }
        long bytes = threads.getThreadAllocatedBytes(thread) - ahead;
        Due.due("calls make nothing: " + bytes + " bytes", bytes < 20000, true);
    }

    private static void callAll(LakeBins lake) {
        lake.feed(0x686F75723B20L, 0x686F75723B20L, 0);
        lake.day();
        lake.feed(0x78L, 0, 0);
        lake.path();
        lake.walk(0);
        lake.put(0, 3);
        lake.empty(0);
        lake.off(0);
        lake.sweep(0);
        lake.hour();
        lake.undo();
        lake.judged(0);
        lake.leaves(0, 8);
        lake.all();
        lake.place(4, 3, 0);
        lake.move();
        lake.full();
        lake.without(0);
        lake.hands(0);
        lake.grows(0, 5);
        lake.order(-1);
        lake.rounds(6, 6, 0);
        lake.from(0, 0);
        lake.bare(0);
        lake.deposit(5);
        lake.find(0, 0);
        lake.who();
        lake.look();
        lake.mean(5);
        lake.rests(5, 3, 0);
        lake.weeks(1, 99, 0);
        lake.mark(0, false);
        lake.mark(0, true);
        lake.count(0);
    }
}
