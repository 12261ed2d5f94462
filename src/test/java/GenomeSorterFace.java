import java.lang.reflect.Constructor;
import java.lang.reflect.Field;
import java.lang.reflect.Method;
import java.lang.reflect.Modifier;
import java.util.Arrays;
import java.util.Set;
import java.util.TreeSet;

// The public face is the document's, no more and no less, and all else is private.
public final class GenomeSorterFace {
    private static final Set<String> DUE = new TreeSet<>(Arrays.asList(
        "public final class GenomeSorter",
        "public static final int GenomeSorter.NONE",
        "public GenomeSorter()",
        "public boolean GenomeSorter.load(int)",
        "public int GenomeSorter.code()",
        "public int GenomeSorter.at(int)",
        "public boolean GenomeSorter.turn(int,int)",
        "public boolean GenomeSorter.swap(int,int)",
        "public boolean GenomeSorter.flip(int)",
        "public int GenomeSorter.distance()",
        "public int GenomeSorter.distanceAfter(int,int)",
        "public int GenomeSorter.goodTurns()",
        "public int GenomeSorter.firstGood()",
        "public int GenomeSorter.sort(int)",
        "public int GenomeSorter.breaks()",
        "public int GenomeSorter.worstSigns()",
        "public int GenomeSorter.bestSigns()",
        "public int GenomeSorter.idleTurns()"));

    public static void main(String[] args) {
        Set<String> face = new TreeSet<>();
        face.add(GenomeSorter.class.toGenericString());
        for (Constructor<?> each : GenomeSorter.class.getDeclaredConstructors()) {
            addUnlessPrivate(face, each.getModifiers(), each.toString());
        }
        for (Method each : GenomeSorter.class.getDeclaredMethods()) {
            addUnlessPrivate(face, each.getModifiers(), each.toString());
        }
        for (Field each : GenomeSorter.class.getDeclaredFields()) {
            addUnlessPrivate(face, each.getModifiers(), each.toString());
        }
        Set<String> missing = new TreeSet<>(DUE);
        missing.removeAll(face);
        face.removeAll(DUE);
        missing.forEach(each -> System.out.println("missing: " + each));
        face.forEach(each -> System.out.println("not in the document: " + each));
        if (!missing.isEmpty() || !face.isEmpty()) {
            System.exit(1);
        }
        System.out.println("the face is as due");
    }

    private static void addUnlessPrivate(Set<String> face, int modifiers, String text) {
        if (!Modifier.isPrivate(modifiers)) {
            face.add(text);
        }
    }
}
