import java.lang.reflect.Constructor;
import java.lang.reflect.Field;
import java.lang.reflect.Method;
import java.lang.reflect.Modifier;
import java.util.Map;
import java.util.Set;
import java.util.TreeMap;
import java.util.TreeSet;

// The public face of the document: every constant with its value, the constructor and every
// method, and no other member that can be seen from outside (rules 1 and 5 of LANGUAGE.md).
public final class FaceTest {
    private static final String CONSTANTS =
        "REFUSED=-1 NONE=0 INCOMPLETE=1 REACHABLE=2 STALE=3 DELAY=4 PROBE=5 DELAY_TIME=5 QUEUE_MAX=3 "
        + "OWN_MAX=8 ROUTER_MAX=4 FRAME_KEEP=64 TENTATIVE=1 PREFERRED=2 DUPLICATE=3 NS_MULTI=1 NS_UNI=2 "
        + "NS_DAD=3 NA=4 DATA=5 FIELD_KIND=0 FIELD_TARGET=1 FIELD_LINK=2 FIELD_PACKET=3 FIELD_HOP=4 "
        + "FLAG_SOLICITED=1 FLAG_OVERRIDE=2 INFO_STATE=0 INFO_LINK=1 INFO_QUEUED=2 INFO_TIMER=3 "
        + "INFO_PROBES=4 ADDR_STATE=0 ADDR_TIMER=1 ADDR_SENT=2 ROUTER_ADDR=0 ROUTER_MARK=1";
    private static final Set<String> METHODS = Set.of(
        "boolean addAddress(int)", "boolean addRouter(int)", "int send(int,boolean)",
        "boolean receiveNA(int,int,int)", "boolean receiveNS(int,int,int)", "boolean confirm(int)",
        "void tick()", "int entryInfo(int,int)", "int entryAt(int)", "int queuedPacket(int,int)",
        "int addressInfo(int,int)", "int routerInfo(int,int)", "int defaultRouter()", "int frameCount()",
        "int frameField(int,int)", "int dropped()");

    private static final Due due = new Due();

    public static void main(String[] args) throws IllegalAccessException {
        due.is("modifiers of the class", NeighborCache.class.getModifiers(), Modifier.PUBLIC | Modifier.FINAL);
        checkFields();
        checkMethods();
        Constructor<?>[] constructors = NeighborCache.class.getDeclaredConstructors();
        due.is("number of constructors", constructors.length, 1);
        due.same("constructor", constructors[0].toString(), "public NeighborCache(int,int,int,int)");
        due.is("nested classes", NeighborCache.class.getDeclaredClasses().length, 0);
        due.end();
    }

    private static void checkFields() throws IllegalAccessException {
        Map<String, Integer> want = new TreeMap<>();
        for (String constant : CONSTANTS.split(" ")) {
            want.put(constant.split("=")[0], Integer.valueOf(constant.split("=")[1]));
        }
        Map<String, Integer> got = new TreeMap<>();
        for (Field field : NeighborCache.class.getDeclaredFields()) {
            int modifiers = field.getModifiers();
            if (Modifier.isPrivate(modifiers)) {
                continue;
            }
            due.is("modifiers of " + field.getName(), modifiers,
                Modifier.PUBLIC | Modifier.STATIC | Modifier.FINAL);
            due.same("type of " + field.getName(), field.getType().toString(), "int");
            got.put(field.getName(), field.getInt(null));
        }
        due.same("the constants", got.toString(), want.toString());
    }

    private static void checkMethods() {
        Set<String> got = new TreeSet<>();
        Set<String> hidden = new TreeSet<>();
        Set<String> shown = new TreeSet<>();
        for (Method method : NeighborCache.class.getDeclaredMethods()) {
            int modifiers = method.getModifiers();
            if (Modifier.isPrivate(modifiers)) {
                hidden.add(method.getName());
                continue;
            }
            due.is("modifiers of " + method.getName(), modifiers, Modifier.PUBLIC);
            shown.add(method.getName());
            got.add(method.toString().replace("public ", "").replace("NeighborCache.", ""));
        }
        due.same("the methods", got.toString(), new TreeSet<>(METHODS).toString());
        hidden.retainAll(shown);
        due.same("private methods with a public name", hidden.toString(), "[]");
    }
}
