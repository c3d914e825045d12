import java.lang.reflect.Constructor;
import java.lang.reflect.Field;
import java.lang.reflect.Method;
import java.lang.reflect.Modifier;
import java.util.Arrays;
import java.util.Set;
import java.util.TreeSet;

/** The public face: just the members that the document names, and the constants' values. */
public final class FaceTest {
    private static final Set<String> FACE = new TreeSet<>(Arrays.asList(
        "public static final int CellNets.BAD_ARG",
        "public static final int CellNets.FULL",
        "public static final int CellNets.NONE",
        "public static final int CellNets.TIRED",
        "public CellNets()",
        "public int CellNets.cell(int)",
        "public int CellNets.join(int,int)",
        "public int CellNets.cut(int)",
        "public void CellNets.clear()",
        "public int CellNets.cells()",
        "public int CellNets.facing()",
        "public int CellNets.steps()",
        "public int CellNets.left(int)",
        "public int CellNets.loops()",
        "public int CellNets.walk(int,int)",
        "public int CellNets.reach(int)",
        "public int CellNets.open()"));

    private static Set<String> membersThatShow() {
        Set<String> found = new TreeSet<>();
        for (Field f : CellNets.class.getDeclaredFields()) {
            if (!Modifier.isPrivate(f.getModifiers())) {
                found.add(f.toString());
            }
        }
        for (Constructor<?> c : CellNets.class.getDeclaredConstructors()) {
            if (!Modifier.isPrivate(c.getModifiers())) {
                found.add(c.toString());
            }
        }
        for (Method m : CellNets.class.getDeclaredMethods()) {
            if (!Modifier.isPrivate(m.getModifiers())) {
                found.add(m.toString());
            }
        }
        return found;
    }

    public static void main(String[] args) {
        Set<String> found = membersThatShow();
        for (String member : FACE) {
            Check.due(member, found.contains(member) ? 1 : 0, 1);
        }
        for (String member : found) {
            Check.due(member, FACE.contains(member) ? 1 : 0, 1);
        }
        int modifiers = CellNets.class.getModifiers();
        Check.due("public class", Modifier.isPublic(modifiers) ? 1 : 0, 1);
        Check.due("final class", Modifier.isFinal(modifiers) ? 1 : 0, 1);
        Check.due("nested classes", CellNets.class.getDeclaredClasses().length, 0);
        Check.due("BAD_ARG", CellNets.BAD_ARG, -1);
        Check.due("FULL", CellNets.FULL, -2);
        Check.due("NONE", CellNets.NONE, -4);
        Check.due("TIRED", CellNets.TIRED, -5);
        Check.end();
    }
}
